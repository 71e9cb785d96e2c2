/-! bisimilar worlds, the class's way -/
theorem bI4_0 (f : Nat → Bool) : bI 4 f = 0 ↔ (List.range 4).any f = false := by
  rw [bI_eq0 (by omega), List.any_eq_false]
  constructor
  · intro h x hx
    rw [h x (List.mem_range.mp hx)]
    decide
  · intro h i hi
    have := h i (List.mem_range.mpr hi)
    cases hf : f i
    · rfl
    · exact absurd hf this
def mtc (w : Nat) (R S : Nat → Nat → Bool) (a b : Nat) : Bool := (List.range w).all (fun c => !R a c || (List.range 4).any (fun d => R b d && S c d))
theorem isMatched_e {w : Nat} (hw : w ≤ 4) (R S : Nat → Nat → Bool) {a b : Nat} (ha : a < 4) (hb : b < 4) : f_X2_isMatched (nI w) (eA R) (eA S) (nI a) (nI b) = some (if mtc w R S a b then 1 else 0) := by
  unfold f_X2_isMatched
  refine (k_all_ w (fun k => nI k) (fun c => !R a c || (List.range 4).any (fun d => R b d && S c d)) (some 0) ?_ ?_ (by omega)).trans ?_
  · intro rc k hk
    dsimp only
    rw [if_neg (nI_nge4 (by omega) (by omega) hk), has_e R ha (by omega), row_e R hb, rowOf_e S (by omega), bI_and (by omega), nI_1]
    cases hR : R a k
    · rw [if_pos (by decide)]
      rfl
    · rw [if_neg (by decide)]
      cases hy : (List.range 4).any (fun d => R b d && S k d)
      · rw [if_pos ((bI4_0 _).mpr hy)]
        rfl
      · rw [if_neg (fun q => by rw [(bI4_0 _).mp q] at hy; cases hy)]
        rfl
  · intro rc
    dsimp only
    rw [if_pos (nI_ge4 (by omega) (by omega) (Nat.le_refl w))]
  · unfold mtc
    split <;> rfl
def refS (w : Nat) (R S : Nat → Nat → Bool) : Nat → Nat → Bool := onw w (fun a b => S a b && (mtc w R S a b && mtc w R S b a))
theorem refined_e {w : Nat} (hw : w ≤ 4) (R S : Nat → Nat → Bool) : f_X2_refined (nI w) (eA R) (eA S) = some (eA (refS w R S)) := by
  unfold f_X2_refined refS
  generalize hT : (fun a b => S a b && (mtc w R S a b && mtc w R S b a)) = T
  have S0 : (0 : Int32) = eA (upto w T 0 0) := (upto_0 w _).symm
  rw [show ((0 : Int32), (0 : Int32)) = (fun k => (eA (upto w T k 0), nI k)) 0 by simp only [← S0]; rfl]
  rw [k_for w (fun k => (eA (upto w T k 0), nI k)) ?_ ?_ (by omega)]
  · rw [upto_end]
  · intro rc k hk
    dsimp only
    rw [if_neg (nI_nge4 (by omega) (by omega) hk)]
    rw [show (eA (upto w T k 0), (0 : Int32)) = (fun m => (eA (upto w T k m), nI m)) 0 from rfl]
    rw [k_for w (fun m => (eA (upto w T k m), nI m)) ?_ ?_ (by omega)]
    · rw [nI_1, upto_row]
    · intro rc2 m hm
      dsimp only
      rw [if_neg (nI_nge4 (by omega) (by omega) hm), isMatched_e hw R S (show k < 4 by omega) (show m < 4 by omega), isMatched_e hw R S (show m < 4 by omega) (show k < 4 by omega), rowOf_e S (show k < 4 by omega), bit_e (by omega) (S k) (show m < 4 by omega) (by omega), nI_1]
      have hT2 : T k m = (S k m && (mtc w R S k m && mtc w R S m k)) := by rw [← hT]
      cases h1 : mtc w R S k m
      · rw [upto_not (by rw [hT2, h1]; simp)]
        rfl
      · cases h2 : mtc w R S m k
        · rw [upto_not (by rw [hT2, h2]; simp)]
          rfl
        · cases h3 : S k m
          · rw [upto_not (by rw [hT2, h3]; simp)]
            rfl
          · rw [← upto_put (by omega) hm hw (by rw [hT2, h1, h2, h3]; rfl)]
            rfl
    · intro rc2
      dsimp only
      rw [if_pos (nI_ge4 (by omega) (by omega) (Nat.le_refl w))]
  · intro rc
    dsimp only
    rw [if_pos (nI_ge4 (by omega) (by omega) (Nat.le_refl w))]
def bsk (w : Nat) (R : Nat → Nat → Bool) (P Q : Nat → Bool) : Nat → Nat → Nat → Bool
  | 0 => onw w (fun a b => P a == P b && Q a == Q b)
  | n + 1 => refS w R (bsk w R P Q n)
theorem bsk_s (w : Nat) (R : Nat → Nat → Bool) (P Q : Nat → Bool) (n a b : Nat) : bsk w R P Q (n + 1) a b = onw w (fun a b => bsk w R P Q n a b && (mtc w R (bsk w R P Q n) a b && mtc w R (bsk w R P Q n) b a)) a b := rfl
/-- bisimilar -/
def bsm (w : Nat) (R : Nat → Nat → Bool) (P Q : Nat → Bool) : Nat → Nat → Bool := bsk w R P Q w
theorem bisim_e {w : Nat} (hw : w ≤ 4) (R : Nat → Nat → Bool) (P Q : Nat → Bool) : f_X2_bisimilarity (nI w) (eA R) (bI 4 P) (bI 4 Q) = some (eA (bsm w R P Q)) := by
  unfold f_X2_bisimilarity bsm
  rw [sameMarks_e w hw, Option.bind_some, show eA (onw w (fun a b => P a == P b && Q a == Q b)) = eA (bsk w R P Q 0) from rfl]
  rw [show (eA (bsk w R P Q 0), (0 : Int32)) = (fun k => (eA (bsk w R P Q k), nI k)) 0 from rfl]
  rw [k_for w (fun k => (eA (bsk w R P Q k), nI k)) ?_ ?_ (by omega)]
  · intro rc k hk
    dsimp only
    rw [if_neg (nI_nge4 (by omega) (by omega) hk), refined_e hw, nI_1]
    rfl
  · intro rc
    dsimp only
    rw [if_pos (nI_ge4 (by omega) (by omega) (Nat.le_refl w))]
theorem onw_in {w : Nat} {S : Nat → Nat → Bool} {a b : Nat} (h : onw w S a b = true) : a < w ∧ b < w ∧ S a b = true := by
  unfold onw at h
  simp only [Bool.and_eq_true, decide_eq_true_eq] at h
  exact ⟨h.1.1, h.1.2, h.2⟩
theorem onw_mk {w : Nat} {S : Nat → Nat → Bool} {a b : Nat} (ha : a < w) (hb : b < w) (h : S a b = true) : onw w S a b = true := by
  unfold onw
  rw [decide_eq_true ha, decide_eq_true hb, h]
  rfl
theorem mtc_iff {w : Nat} {R S : Nat → Nat → Bool} {a b : Nat} : mtc w R S a b = true ↔ ∀ c, c < w → R a c = true → ∃ d, d < 4 ∧ R b d = true ∧ S c d = true := by
  unfold mtc
  rw [List.all_eq_true]
  constructor
  · intro h c hc hR
    have h1 := h c (List.mem_range.mpr hc)
    rw [hR, Bool.not_true, Bool.false_or, List.any_eq_true] at h1
    obtain ⟨d, h2, h3⟩ := h1
    rw [Bool.and_eq_true] at h3
    exact ⟨d, List.mem_range.mp h2, h3.1, h3.2⟩
  · intro h c hc
    cases hR : R a c
    · rfl
    · obtain ⟨d, h1, h2, h3⟩ := h c (List.mem_range.mp hc) hR
      rw [Bool.not_true, Bool.false_or, List.any_eq_true]
      exact ⟨d, List.mem_range.mpr h1, by rw [h2, h3]; rfl⟩
theorem bsk_refl {w : Nat} (hw : w ≤ 4) (R : Nat → Nat → Bool) (P Q : Nat → Bool) : ∀ n a, a < w → bsk w R P Q n a a = true := by
  intro n
  induction n with
  | zero => intro a ha; exact onw_mk ha ha (by simp)
  | succ n ih =>
    intro a ha
    rw [bsk_s]
    refine onw_mk ha ha ?_
    have h : mtc w R (bsk w R P Q n) a a = true := mtc_iff.mpr (fun c hc hR => ⟨c, by omega, hR, ih c hc⟩)
    rw [ih a ha, h]
    rfl
theorem bsk_symm {w : Nat} (R : Nat → Nat → Bool) (P Q : Nat → Bool) : ∀ n a b, bsk w R P Q n a b = true → bsk w R P Q n b a = true := by
  intro n
  induction n with
  | zero =>
    intro a b h
    obtain ⟨h1, h2, h3⟩ := onw_in h
    refine onw_mk h2 h1 ?_
    simp only [Bool.and_eq_true, beq_iff_eq] at h3 ⊢
    exact ⟨h3.1.symm, h3.2.symm⟩
  | succ n ih =>
    intro a b h
    rw [bsk_s] at h ⊢
    obtain ⟨h1, h2, h3⟩ := onw_in h
    simp only [Bool.and_eq_true] at h3
    refine onw_mk h2 h1 ?_
    rw [ih a b h3.1, h3.2.1, h3.2.2]
    rfl
theorem bsk_trans {w : Nat} (hw : w ≤ 4) (R : Nat → Nat → Bool) (P Q : Nat → Bool) (hR : ∀ a b, R a b = true → b < w) : ∀ n a b c, bsk w R P Q n a b = true → bsk w R P Q n b c = true → bsk w R P Q n a c = true := by
  intro n
  induction n with
  | zero =>
    intro a b c h h'
    obtain ⟨h1, h2, h3⟩ := onw_in h
    obtain ⟨g1, g2, g3⟩ := onw_in h'
    refine onw_mk h1 g2 ?_
    simp only [Bool.and_eq_true, beq_iff_eq] at h3 g3 ⊢
    exact ⟨h3.1.trans g3.1, h3.2.trans g3.2⟩
  | succ n ih =>
    have key : ∀ a b c, mtc w R (bsk w R P Q n) a b = true → mtc w R (bsk w R P Q n) b c = true → mtc w R (bsk w R P Q n) a c = true := by
      intro a b c h h'
      rw [mtc_iff] at h h' ⊢
      intro x hx hax
      obtain ⟨y, h1, h2, h3⟩ := h x hx hax
      obtain ⟨z, g1, g2, g3⟩ := h' y (hR _ _ h2) h2
      exact ⟨z, g1, g2, ih x y z h3 g3⟩
    intro a b c h h'
    rw [bsk_s] at h h' ⊢
    obtain ⟨h1, h2, h3⟩ := onw_in h
    obtain ⟨g1, g2, g3⟩ := onw_in h'
    simp only [Bool.and_eq_true] at h3 g3
    refine onw_mk h1 g2 ?_
    rw [ih a b c h3.1 g3.1, key a b c h3.2.1 g3.2.1, key c b a g3.2.2 h3.2.2]
    rfl
theorem bsk_down {w : Nat} (R : Nat → Nat → Bool) (P Q : Nat → Bool) (n : Nat) : ∀ a b, bsk w R P Q (n + 1) a b = true → bsk w R P Q n a b = true := by
  intro a b h
  rw [bsk_s] at h
  obtain ⟨-, -, h3⟩ := onw_in h
  simp only [Bool.and_eq_true] at h3
  exact h3.1
theorem bsk_le {w : Nat} (R : Nat → Nat → Bool) (P Q : Nat → Bool) (n k : Nat) : ∀ a b, bsk w R P Q (n + k) a b = true → bsk w R P Q n a b = true := by
  induction k with
  | zero => intro a b h; exact h
  | succ k ih => intro a b h; exact ih a b (bsk_down R P Q (n + k) a b h)
/-- how many pairs of different worlds are alike -/
def prs (S : Nat → Nat → Bool) : Nat := (if S 0 1 then 1 else 0) + (if S 0 2 then 1 else 0) + (if S 0 3 then 1 else 0) + (if S 1 2 then 1 else 0) + (if S 1 3 then 1 else 0) + (if S 2 3 then 1 else 0)
theorem prs_vals (x01 x02 x03 x12 x13 x23 : Bool) (h1 : x01 = true → x02 = true → x12 = true) (h2 : x01 = true → x12 = true → x02 = true) (h3 : x02 = true → x12 = true → x01 = true) (h4 : x01 = true → x03 = true → x13 = true) (h5 : x01 = true → x13 = true → x03 = true) (h6 : x03 = true → x13 = true → x01 = true) (h7 : x02 = true → x03 = true → x23 = true) (h8 : x02 = true → x23 = true → x03 = true) (h9 : x03 = true → x23 = true → x02 = true) (h10 : x12 = true → x13 = true → x23 = true) (h11 : x12 = true → x23 = true → x13 = true) (h12 : x13 = true → x23 = true → x12 = true) :
    (if x01 then 1 else 0) + (if x02 then 1 else 0) + (if x03 then 1 else 0) + (if x12 then 1 else 0) + (if x13 then 1 else 0) + (if x23 then 1 else 0) ∈ [0, 1, 2, 3, 6] := by
  have key : ∀ x01 x02 x03 x12 x13 x23 : Bool, ((!x01 || !x02 || x12) && (!x01 || !x12 || x02) && (!x02 || !x12 || x01) && (!x01 || !x03 || x13) && (!x01 || !x13 || x03) && (!x03 || !x13 || x01) && (!x02 || !x03 || x23) && (!x02 || !x23 || x03) && (!x03 || !x23 || x02) && (!x12 || !x13 || x23) && (!x12 || !x23 || x13) && (!x13 || !x23 || x12)) = true →
      (if x01 then 1 else 0) + (if x02 then 1 else 0) + (if x03 then 1 else 0) + (if x12 then 1 else 0) + (if x13 then 1 else 0) + (if x23 then 1 else 0) ∈ [0, 1, 2, 3, 6] := by decide +kernel
  have imp : ∀ a b c : Bool, (a = true → b = true → c = true) → (!a || !b || c) = true := by
    intro a b c h
    cases a <;> cases b <;> first | rfl | (simpa using h)
  exact key _ _ _ _ _ _ (by simp only [imp _ _ _ h1, imp _ _ _ h2, imp _ _ _ h3, imp _ _ _ h4, imp _ _ _ h5, imp _ _ _ h6, imp _ _ _ h7, imp _ _ _ h8, imp _ _ _ h9, imp _ _ _ h10, imp _ _ _ h11, imp _ _ _ h12, Bool.and_true])
theorem prs_lt {S T : Nat → Nat → Bool} (h : ∀ a b, T a b = true → S a b = true) {a b : Nat} (hab : a < b) (hb : b < 4) (h1 : S a b = true) (h2 : T a b = false) : prs T < prs S := by
  have k : ∀ x y, (if T x y then 1 else 0) ≤ (if S x y then 1 else 0) := by
    intro x y
    cases ht : T x y
    · simp
    · rw [h x y ht]
      exact Nat.le_refl _
  have k2 : (if T a b then 1 else 0) < (if S a b then 1 else 0) := by
    rw [h1, h2]
    decide
  have k01 := k 0 1
  have k02 := k 0 2
  have k03 := k 0 3
  have k12 := k 1 2
  have k13 := k 1 3
  have k23 := k 2 3
  unfold prs
  rcases (show (a = 0 ∧ b = 1) ∨ (a = 0 ∧ b = 2) ∨ (a = 0 ∧ b = 3) ∨ (a = 1 ∧ b = 2) ∨ (a = 1 ∧ b = 3) ∨ (a = 2 ∧ b = 3) by omega) with ⟨rfl, rfl⟩ | ⟨rfl, rfl⟩ | ⟨rfl, rfl⟩ | ⟨rfl, rfl⟩ | ⟨rfl, rfl⟩ | ⟨rfl, rfl⟩ <;> omega
theorem bsk_out {w : Nat} {R : Nat → Nat → Bool} {P Q : Nat → Bool} : ∀ {n a b}, bsk w R P Q n a b = true → a < w ∧ b < w := by
  intro n a b h
  cases n with
  | zero => exact ⟨(onw_in h).1, (onw_in h).2.1⟩
  | succ n =>
    rw [bsk_s] at h
    exact ⟨(onw_in h).1, (onw_in h).2.1⟩
theorem bsk_fix {w : Nat} (hw : w ≤ 4) (R : Nat → Nat → Bool) (P Q : Nat → Bool) (hR : ∀ a b, R a b = true → b < w) : bsk w R P Q (w + 1) = bsk w R P Q w := by
  refine Classical.byContradiction (fun hc => ?_)
  have hup : ∀ m k, bsk w R P Q (m + 1) = bsk w R P Q m → bsk w R P Q (m + k + 1) = bsk w R P Q (m + k) := by
    intro m k h
    induction k with
    | zero => exact h
    | succ k ih =>
      show refS w R (bsk w R P Q (m + k + 1)) = bsk w R P Q (m + k + 1)
      rw [ih]
      exact ih
  have hne : ∀ m, m ≤ w → bsk w R P Q (m + 1) ≠ bsk w R P Q m := by
    intro m hm h
    have := hup m (w - m) h
    rw [show m + (w - m) = w by omega] at this
    exact hc this
  have hlt : ∀ m, m ≤ w → prs (bsk w R P Q (m + 1)) < prs (bsk w R P Q m) := by
    intro m hm
    have : ∃ a b, bsk w R P Q m a b = true ∧ bsk w R P Q (m + 1) a b = false := by
      refine Classical.byContradiction (fun hn => hne m hm ?_)
      funext a b
      cases h1 : bsk w R P Q m a b
      · cases h2 : bsk w R P Q (m + 1) a b
        · rfl
        · rw [bsk_down R P Q m a b h2] at h1
          cases h1
      · cases h2 : bsk w R P Q (m + 1) a b
        · exact absurd ⟨a, b, h1, h2⟩ hn
        · rfl
    obtain ⟨a, b, h1, h2⟩ := this
    obtain ⟨g1, g2⟩ := bsk_out h1
    rcases Nat.lt_trichotomy a b with h | h | h
    · exact prs_lt (bsk_down R P Q m) h (by omega) h1 h2
    · subst h
      rw [bsk_refl hw R P Q _ a g1] at h2
      cases h2
    · refine prs_lt (bsk_down R P Q m) h (by omega) (bsk_symm R P Q m a b h1) ?_
      cases h3 : bsk w R P Q (m + 1) b a
      · rfl
      · rw [bsk_symm R P Q (m + 1) b a h3] at h2
        cases h2
  have hno : ∀ n a b, w ≤ b → bsk w R P Q n a b = false := by
    intro n a b hb
    cases h : bsk w R P Q n a b
    · rfl
    · have := (bsk_out h).2
      omega
  have hin : ∀ n, prs (bsk w R P Q n) ∈ [0, 1, 2, 3, 6] := by
    intro n
    have s := bsk_symm (w := w) R P Q n
    have t := bsk_trans hw R P Q hR n
    exact prs_vals _ _ _ _ _ _ (fun x y => t _ _ _ (s _ _ x) y) (fun x y => t _ _ _ x y) (fun x y => t _ _ _ x (s _ _ y)) (fun x y => t _ _ _ (s _ _ x) y) (fun x y => t _ _ _ x y) (fun x y => t _ _ _ x (s _ _ y)) (fun x y => t _ _ _ (s _ _ x) y) (fun x y => t _ _ _ x y) (fun x y => t _ _ _ x (s _ _ y)) (fun x y => t _ _ _ (s _ _ x) y) (fun x y => t _ _ _ x y) (fun x y => t _ _ _ x (s _ _ y))
  have hb : ∀ n, (w ≤ 3 → prs (bsk w R P Q n) ≤ 3) ∧ (w ≤ 2 → prs (bsk w R P Q n) ≤ 1) ∧ (w ≤ 1 → prs (bsk w R P Q n) ≤ 0) := by
    intro n
    have le1 : ∀ x y, (if bsk w R P Q n x y = true then 1 else 0) ≤ 1 := by
      intro x y
      split <;> omega
    have k01 := le1 0 1
    have k02 := le1 0 2
    have k12 := le1 1 2
    unfold prs
    refine ⟨fun h => ?_, fun h => ?_, fun h => ?_⟩
    · rw [hno n 0 3 h, hno n 1 3 h, hno n 2 3 h]
      simp only [if_neg (show ¬ false = true by decide)]
      omega
    · rw [hno n 0 3 (by omega), hno n 1 3 (by omega), hno n 2 3 (by omega), hno n 0 2 h, hno n 1 2 h]
      simp only [if_neg (show ¬ false = true by decide)]
      omega
    · rw [hno n 0 3 (by omega), hno n 1 3 (by omega), hno n 2 3 (by omega), hno n 0 2 (by omega), hno n 1 2 (by omega), hno n 0 1 h]
      simp
  have h0 := hb 0
  have g0 := hin 0
  have g1 := hin 1
  have g2 := hin 2
  have g3 := hin 3
  have g4 := hin 4
  have g5 := hin 5
  simp only [List.mem_cons, List.not_mem_nil, or_false] at g0 g1 g2 g3 g4 g5
  have l0 : prs (bsk w R P Q 1) < prs (bsk w R P Q 0) := hlt 0 (by omega)
  rcases (show w = 0 ∨ w = 1 ∨ w = 2 ∨ w = 3 ∨ w = 4 by omega) with h | h | h | h | h
  · have := h0.2.2 (by omega)
    omega
  · have := h0.2.2 (by omega)
    omega
  · have := h0.2.1 (by omega)
    have l1 : prs (bsk w R P Q 2) < prs (bsk w R P Q 1) := hlt 1 (by omega)
    omega
  · have := h0.1 (by omega)
    have l1 : prs (bsk w R P Q 2) < prs (bsk w R P Q 1) := hlt 1 (by omega)
    have l2 : prs (bsk w R P Q 3) < prs (bsk w R P Q 2) := hlt 2 (by omega)
    have l3 : prs (bsk w R P Q 4) < prs (bsk w R P Q 3) := hlt 3 (by omega)
    omega
  · have l1 : prs (bsk w R P Q 2) < prs (bsk w R P Q 1) := hlt 1 (by omega)
    have l2 : prs (bsk w R P Q 3) < prs (bsk w R P Q 2) := hlt 2 (by omega)
    have l3 : prs (bsk w R P Q 4) < prs (bsk w R P Q 3) := hlt 3 (by omega)
    have l4 : prs (bsk w R P Q 5) < prs (bsk w R P Q 4) := hlt 4 (by omega)
    omega
/-- what bisimilar worlds are -/
theorem bsm_refl {w : Nat} (hw : w ≤ 4) (R : Nat → Nat → Bool) (P Q : Nat → Bool) {a : Nat} (h : a < w) : bsm w R P Q a a = true := bsk_refl hw R P Q w a h
theorem bsm_symm {w : Nat} {R : Nat → Nat → Bool} {P Q : Nat → Bool} {a b : Nat} (h : bsm w R P Q a b = true) : bsm w R P Q b a = true := bsk_symm R P Q w a b h
theorem bsm_out {w : Nat} {R : Nat → Nat → Bool} {P Q : Nat → Bool} {a b : Nat} (h : bsm w R P Q a b = true) : a < w ∧ b < w := bsk_out h
theorem bsm_marks {w : Nat} {R : Nat → Nat → Bool} {P Q : Nat → Bool} {a b : Nat} (h : bsm w R P Q a b = true) : P a = P b ∧ Q a = Q b := by
  have h1 : bsk w R P Q (0 + w) a b = true := by rw [Nat.zero_add]; exact h
  obtain ⟨-, -, h3⟩ := onw_in (bsk_le R P Q 0 w a b h1)
  simpa using h3
theorem bsm_arrow {w : Nat} (hw : w ≤ 4) {R : Nat → Nat → Bool} {P Q : Nat → Bool} (hR : ∀ a b, R a b = true → b < w) {a b c : Nat} (h : bsm w R P Q a b = true) (hc : R a c = true) : ∃ d, d < w ∧ R b d = true ∧ bsm w R P Q c d = true := by
  have h1 : bsk w R P Q (w + 1) a b = true := by rw [bsk_fix hw R P Q hR]; exact h
  rw [bsk_s] at h1
  obtain ⟨-, -, h3⟩ := onw_in h1
  simp only [Bool.and_eq_true] at h3
  obtain ⟨d, g1, g2, g3⟩ := mtc_iff.mp h3.2.1 c (hR _ _ hc) hc
  exact ⟨d, hR _ _ g2, g2, g3⟩
theorem bsm_max {w : Nat} (hw : w ≤ 4) {R : Nat → Nat → Bool} {P Q : Nat → Bool} {T : Nat → Nat → Bool} (h0 : ∀ a b, T a b = true → a < w ∧ b < w ∧ P a = P b ∧ Q a = Q b) (h1 : ∀ a b c, T a b = true → c < w → R a c = true → ∃ d, d < w ∧ R b d = true ∧ T c d = true) (hs : ∀ a b, T a b = true → T b a = true) : ∀ a b, T a b = true → bsm w R P Q a b = true := by
  have key : ∀ n a b, T a b = true → bsk w R P Q n a b = true := by
    intro n
    induction n with
    | zero =>
      intro a b h
      obtain ⟨g1, g2, g3, g4⟩ := h0 a b h
      exact onw_mk g1 g2 (by simp [g3, g4])
    | succ n ih =>
      intro a b h
      obtain ⟨g1, g2, g3, g4⟩ := h0 a b h
      have m : ∀ x y, T x y = true → mtc w R (bsk w R P Q n) x y = true := fun x y hxy => mtc_iff.mpr (fun c hc hR => by
        obtain ⟨d, k1, k2, k3⟩ := h1 x y c hxy hc hR
        exact ⟨d, by omega, k2, ih c d k3⟩)
      rw [bsk_s]
      refine onw_mk g1 g2 ?_
      rw [ih a b h, m a b h, m b a (hs a b h)]
      rfl
  exact key w
/-- the lowest item of a set of worlds -/
def lowf (f : Nat → Bool) : Nat := if f 0 then 0 else if f 1 then 1 else if f 2 then 2 else 3
theorem lowest_e (f : Nat → Bool) (h : ∃ a, a < 4 ∧ f a = true) : f_X8_lowest (Int32.toInt64 (bI 4 f)) = nI (lowf f) := by
  obtain ⟨a, ha, hf⟩ := h
  have h4 : (f 0 || f 1 || f 2 || f 3) = true := by
    rcases (show a = 0 ∨ a = 1 ∨ a = 2 ∨ a = 3 by omega) with rfl | rfl | rfl | rfl <;> simp [hf]
  have key : ∀ x0 x1 x2 x3 : Bool, (x0 || x1 || x2 || x3) = true → f_X8_lowest (Int32.toInt64 (nI (0 + (if x0 then 2 ^ 0 else 0) + (if x1 then 2 ^ 1 else 0) + (if x2 then 2 ^ 2 else 0) + (if x3 then 2 ^ 3 else 0)))) = nI (if x0 then 0 else if x1 then 1 else if x2 then 2 else 3) := by decide +kernel
  exact key (f 0) (f 1) (f 2) (f 3) h4
theorem lowf_spec {f : Nat → Bool} (h : ∃ a, a < 4 ∧ f a = true) : lowf f < 4 ∧ f (lowf f) = true ∧ ∀ b, b < lowf f → f b = false := by
  obtain ⟨a, ha, hf⟩ := h
  unfold lowf
  by_cases h0 : f 0 = true
  · rw [if_pos h0]; exact ⟨by omega, h0, fun b hb => absurd hb (Nat.not_lt_zero b)⟩
  · rw [if_neg h0]
    by_cases h1 : f 1 = true
    · rw [if_pos h1]; exact ⟨by omega, h1, fun b hb => by rw [show b = 0 by omega]; simpa using h0⟩
    · rw [if_neg h1]
      by_cases h2 : f 2 = true
      · rw [if_pos h2]; exact ⟨by omega, h2, fun b hb => by rcases (show b = 0 ∨ b = 1 by omega) with rfl | rfl; exact (by simpa using h0); exact (by simpa using h1)⟩
      · rw [if_neg h2]
        rcases (show a = 0 ∨ a = 1 ∨ a = 2 ∨ a = 3 by omega) with rfl | rfl | rfl | rfl
        · exact absurd hf h0
        · exact absurd hf h1
        · exact absurd hf h2
        · exact ⟨by omega, hf, fun b hb => by
            rcases (show b = 0 ∨ b = 1 ∨ b = 2 by omega) with rfl | rfl | rfl
            · simpa using h0
            · simpa using h1
            · simpa using h2⟩
theorem lowf_one {f : Nat → Bool} {k : Nat} (hk : k < 4) (h : f k = true) (h2 : ∀ b, b < k → f b = false) : lowf f = k := by
  obtain ⟨g1, g2, g3⟩ := lowf_spec ⟨k, hk, h⟩
  rcases Nat.lt_trichotomy (lowf f) k with q | q | q
  · rw [h2 _ q] at g2; cases g2
  · exact q
  · rw [g3 k q] at h; cases h
/-- the lowest bisimilar world -/
def lwb (w : Nat) (R : Nat → Nat → Bool) (P Q : Nat → Bool) (a : Nat) : Nat := lowf (bsm w R P Q a)
theorem lowRow_e {w : Nat} (hw : w ≤ 4) (R : Nat → Nat → Bool) (P Q : Nat → Bool) {a : Nat} (ha : a < w) : f_X8_lowest (Int32.toInt64 (f_X2_rowOf (eA (bsm w R P Q)) (nI a))) = nI (lwb w R P Q a) := by
  rw [rowOf_e _ (by omega)]
  exact lowest_e _ ⟨a, by omega, bsm_refl hw R P Q ha⟩
theorem lwb_spec {w : Nat} (hw : w ≤ 4) (R : Nat → Nat → Bool) (P Q : Nat → Bool) {a : Nat} (ha : a < w) : lwb w R P Q a ≤ a ∧ bsm w R P Q a (lwb w R P Q a) = true ∧ ∀ b, b < lwb w R P Q a → bsm w R P Q a b = false := by
  obtain ⟨h1, h2, h3⟩ := lowf_spec (f := bsm w R P Q a) ⟨a, by omega, bsm_refl hw R P Q ha⟩
  refine ⟨?_, h2, h3⟩
  rcases Nat.lt_or_ge a (lowf (bsm w R P Q a)) with q | q
  · have := h3 a q
    rw [bsm_refl hw R P Q ha] at this
    cases this
  · exact q
theorem lowestBisimilar_e {w : Nat} (hw : w ≤ 4) (R : Nat → Nat → Bool) (P Q : Nat → Bool) {a : Nat} (ha : a < w) : f_X2_lowestBisimilar (nI w) (eA R) (bI 4 P) (bI 4 Q) (nI a) = some (nI (lwb w R P Q a)) := by
  unfold f_X2_lowestBisimilar
  rw [bisim_e hw, Option.bind_some]
  rw [lowRow_e hw R P Q ha]
theorem classes_e {w : Nat} (hw : w ≤ 4) (R : Nat → Nat → Bool) (P Q : Nat → Bool) : f_X2_classes (nI w) (eA R) (bI 4 P) (bI 4 Q) = some (nI (fb_ct (fun a => decide (lwb w R P Q a = a)) w)) := by
  unfold f_X2_classes
  rw [bisim_e hw, Option.bind_some]
  rw [show ((0 : Int32), (0 : Int32)) = (fun k => (nI (fb_ct (fun a => decide (lwb w R P Q a = a)) k), nI k)) 0 from rfl]
  rw [k_for w (fun k => (nI (fb_ct (fun a => decide (lwb w R P Q a = a)) k), nI k)) ?_ ?_ (by omega)]
  · intro rc k hk
    have hl := (lwb_spec hw R P Q hk).1
    dsimp only
    rw [if_neg (nI_nge4 (by omega) (by omega) hk), lowRow_e hw R P Q hk, fb_ct_succ]
    by_cases h : lwb w R P Q k = k
    · rw [if_pos (by rw [h]), nI_1, nI_1, if_pos (by simpa using h)]
    · rw [if_neg (fun q => h ((nI_eq (by omega) (by omega)).mp q)), nI_1, if_neg (by simpa using h)]
      rfl
  · intro rc
    dsimp only
    rw [if_pos (nI_ge4 (by omega) (by omega) (Nat.le_refl w))]
