/-! worlds told apart, the reference's way -/
def met (w : Nat) (R U : Nat → Nat → Bool) (a b : Nat) : Bool := (List.range w).all (fun c => !R a c || (List.range w).any (fun d => R b d && !U c d))
theorem any_s (p : Nat → Bool) (n : Nat) : (List.range (n + 1)).any p = ((List.range n).any p || p n) := by rw [List.range_succ, List.any_append]; simp
theorem all_s (p : Nat → Bool) (n : Nat) : (List.range (n + 1)).all p = ((List.range n).all p && p n) := by rw [List.range_succ, List.all_append]; simp
theorem isMet_e {w : Nat} (hw : w ≤ 4) {R U : Nat → Nat → Bool} {f ap : Nat → Int32} (hf : ba f R) (hu : ba ap U) {a b : Nat} (ha : a < 4) (hb : b < 4) : f_X9_isMet (nI w) f ap (nI a) (nI b) = some (if met w R U a b then 1 else 0) := by
  unfold f_X9_isMet met
  generalize hp : (fun c => !R a c || (List.range w).any (fun d => R b d && !U c d)) = p
  rw [show ((1 : Int32), (0 : Int32)) = (fun k => ((if (List.range k).all p then 1 else 0 : Int32), nI k)) 0 from rfl]
  rw [k_for w (fun k => ((if (List.range k).all p then 1 else 0 : Int32), nI k)) ?_ ?_ (by omega)]
  · show k_bl _ _ = _
    rw [bl_b]
  · intro rc k hk
    dsimp only
    rw [if_neg (nI_nge4 (by omega) (by omega) hk), nI_mul4, chk_e (show 4 * a + k < 16 by omega) (by omega), cl_e (show 4 * a + k < 2 ^ 31 by omega), hf a k ha (by omega)]
    have e1 : (if (if R a k = true then (1 : Int32) else 0) = 0 then some (1 : Int32) else some 0) = some (if !R a k then 1 else 0) := by cases R a k <;> rfl
    rw [e1, Option.bind_some]
    have e2 : ((if !R a k then (1 : Int32) else 0), (0 : Int32)) = (fun m => ((if (!R a k || (List.range m).any (fun d => R b d && !U k d)) then 1 else 0 : Int32), nI m)) 0 := by
      cases R a k <;> rfl
    rw [e2]
    rw [k_for w (fun m => ((if (!R a k || (List.range m).any (fun d => R b d && !U k d)) then 1 else 0 : Int32), nI m)) ?_ ?_ (by omega)]
    · dsimp only
      have hpk : p k = (!R a k || (List.range w).any (fun d => R b d && !U k d)) := by rw [← hp]
      rw [all_s, ← hpk, nI_1]
      cases (List.range k).all p <;> cases p k <;> rfl
    · intro rc2 m hm
      dsimp only
      rw [if_neg (nI_nge4 (by omega) (by omega) hm), nI_mul4, chk_e (show 4 * b + m < 16 by omega) (by omega), cl_e (show 4 * b + m < 2 ^ 31 by omega), hf b m hb (by omega), nI_mul4, chk_e (show 4 * k + m < 16 by omega) (by omega), cl_e (show 4 * k + m < 2 ^ 31 by omega), hu k m (by omega) (by omega), any_s, nI_1]
      cases (!R a k)
      · cases (List.range m).any (fun d => R b d && !U k d)
        · cases R b m <;> cases U k m <;> rfl
        · cases R b m <;> cases U k m <;> rfl
      · cases (List.range m).any (fun d => R b d && !U k d) <;> cases R b m <;> cases U k m <;> rfl
    · intro rc2
      dsimp only
      rw [if_pos (nI_ge4 (by omega) (by omega) (Nat.le_refl w))]
  · intro rc
    dsimp only
    rw [if_pos (nI_ge4 (by omega) (by omega) (Nat.le_refl w))]
theorem met_iff {w : Nat} {R U : Nat → Nat → Bool} {a b : Nat} : met w R U a b = true ↔ ∀ c, c < w → R a c = true → ∃ d, d < w ∧ R b d = true ∧ U c d = false := by
  unfold met
  rw [List.all_eq_true]
  constructor
  · intro h c hc hR
    have h1 := h c (List.mem_range.mpr hc)
    rw [hR, Bool.not_true, Bool.false_or, List.any_eq_true] at h1
    obtain ⟨d, h2, h3⟩ := h1
    simp only [Bool.and_eq_true, Bool.not_eq_true'] at h3
    exact ⟨d, List.mem_range.mp h2, h3.1, h3.2⟩
  · intro h c hc
    cases hR : R a c
    · rfl
    · obtain ⟨d, h1, h2, h3⟩ := h c (List.mem_range.mp hc) hR
      rw [Bool.not_true, Bool.false_or, List.any_eq_true]
      exact ⟨d, List.mem_range.mpr h1, by rw [h2, h3]; rfl⟩
theorem met_congr {w : Nat} (hw : w ≤ 4) {R U V : Nat → Nat → Bool} (h : ∀ a b, a < 4 → b < 4 → U a b = V a b) (a b : Nat) : met w R U a b = met w R V a b := by
  have key : met w R U a b = true ↔ met w R V a b = true := by
    rw [met_iff, met_iff]
    constructor
    · intro g c hc hR
      obtain ⟨d, h1, h2, h3⟩ := g c hc hR
      exact ⟨d, h1, h2, by rw [← h c d (by omega) (by omega)]; exact h3⟩
    · intro g c hc hR
      obtain ⟨d, h1, h2, h3⟩ := g c hc hR
      exact ⟨d, h1, h2, by rw [h c d (by omega) (by omega)]; exact h3⟩
  cases h1 : met w R U a b <;> cases h2 : met w R V a b <;> simp_all
/-- what is kept while worlds are told apart -/
def apG (w : Nat) (R : Nat → Nat → Bool) (P Q : Nat → Bool) (U : Nat → Nat → Bool) : Prop := (∀ a b, a < 4 → b < 4 → U a b = U b a) ∧ (∀ a b, bsm w R P Q a b = true → U a b = false) ∧ (∀ a b, a < w → b < w → U a b = false → P a = P b ∧ Q a = Q b)
def apS (w : Nat) (R U : Nat → Nat → Bool) : Prop := ∀ a b, a < w → b < w → U a b = false → met w R U a b = true ∧ met w R U b a = true
def apC (U : Nat → Nat → Bool) : Nat := fb_ct (fun k => U (k / 4) (k % 4)) 16
def up2 (U : Nat → Nat → Bool) (a b : Nat) (v : Bool) : Nat → Nat → Bool := fun x y => if (x = a ∧ y = b) ∨ (x = b ∧ y = a) then v else U x y
theorem ba_up2 {ap : Nat → Int32} {U : Nat → Nat → Bool} (h : ba ap U) {a b : Nat} (ha : a < 4) (hb : b < 4) (v : Bool) : ba (upd (upd ap (4 * a + b) (if v then 1 else 0)) (4 * b + a) (if v then 1 else 0)) (up2 U a b v) := by
  intro x y hx hy
  unfold up2
  by_cases h1 : x = b ∧ y = a
  · rw [if_pos (Or.inr h1), h1.1, h1.2, pk_us]
  · by_cases h2 : x = a ∧ y = b
    · rw [if_pos (Or.inl h2), h2.1, h2.2]
      by_cases h3 : 4 * a + b = 4 * b + a
      · rw [h3, pk_us]
      · rw [pk_un h3, pk_us]
    · rw [if_neg (show ¬ ((x = a ∧ y = b) ∨ (x = b ∧ y = a)) from fun q => q.elim h2 h1), pk_un (by omega), pk_un (by omega), h x y hx hy]
theorem met_sound {w : Nat} (hw : w ≤ 4) {R U : Nat → Nat → Bool} {P Q : Nat → Bool} (hR : ∀ a b, R a b = true → a < w ∧ b < w) (hG : apG w R P Q U) {a b : Nat} (h : bsm w R P Q a b = true) : met w R U a b = true := by
  rw [met_iff]
  intro c hc hac
  obtain ⟨d, h1, h2, h3⟩ := bsm_arrow hw (fun x y q => (hR x y q).2) h hac
  exact ⟨d, h1, h2, hG.2.1 c d h3⟩
theorem apC_up {U : Nat → Nat → Bool} {a b : Nat} (ha : a < 4) (hb : b < 4) (h : U a b = false) (hs : ∀ a b, a < 4 → b < 4 → U a b = U b a) : apC U + 1 ≤ apC (up2 U a b true) := by
  have e1 : fb_ct (fun k => if k = 4 * a + b then true else U (k / 4) (k % 4)) 16 + (if U ((4 * a + b) / 4) ((4 * a + b) % 4) then 1 else 0) = fb_ct (fun k => U (k / 4) (k % 4)) 16 + (if true then 1 else 0) := fb_ct_upd (fun k => U (k / 4) (k % 4)) true (i := 4 * a + b) (n := 16) (by omega)
  rw [show (4 * a + b) / 4 = a by omega, show (4 * a + b) % 4 = b by omega, h] at e1
  have e2 : fb_ct (fun k => if k = 4 * a + b then true else U (k / 4) (k % 4)) 16 ≤ apC (up2 U a b true) := by
    refine fb_ct_sub (fun k hk hp => ?_)
    unfold up2
    by_cases h1 : (k / 4 = a ∧ k % 4 = b) ∨ (k / 4 = b ∧ k % 4 = a)
    · rw [if_pos h1]
    · rw [if_neg h1]
      by_cases h2 : k = 4 * a + b
      · exact absurd (Or.inl ⟨by omega, by omega⟩) h1
      · rw [if_neg h2] at hp
        exact hp
  unfold apC at *
  simp only [if_neg (show ¬ (false = true) by decide), if_true] at e1
  omega
theorem apG_up {w : Nat} (hw : w ≤ 4) {R U : Nat → Nat → Bool} {P Q : Nat → Bool} (hR : ∀ a b, R a b = true → a < w ∧ b < w) (hG : apG w R P Q U) {a b : Nat} (hno : U a b = false) (h : met w R U a b = false ∨ met w R U b a = false) : apG w R P Q (up2 U a b true) := by
  refine ⟨fun x y hx hy => ?_, fun x y hxy => ?_, fun x y hx hy hu => ?_⟩
  · unfold up2
    by_cases h1 : (x = a ∧ y = b) ∨ (x = b ∧ y = a)
    · rw [if_pos h1, if_pos (h1.elim (fun q => Or.inr ⟨q.2, q.1⟩) (fun q => Or.inl ⟨q.2, q.1⟩))]
    · rw [if_neg h1, if_neg (fun q => h1 (q.elim (fun q => Or.inr ⟨q.2, q.1⟩) (fun q => Or.inl ⟨q.2, q.1⟩)))]
      exact hG.1 x y hx hy
  · unfold up2
    by_cases h1 : (x = a ∧ y = b) ∨ (x = b ∧ y = a)
    · exfalso
      have hab : bsm w R P Q a b = true := by
        rcases h1 with ⟨rfl, rfl⟩ | ⟨rfl, rfl⟩
        · exact hxy
        · exact bsm_symm hxy
      rcases h with h | h
      · rw [met_sound hw hR hG hab] at h; cases h
      · rw [met_sound hw hR hG (bsm_symm hab)] at h; cases h
    · rw [if_neg h1]
      exact hG.2.1 x y hxy
  · unfold up2 at hu
    by_cases h1 : (x = a ∧ y = b) ∨ (x = b ∧ y = a)
    · rw [if_pos h1] at hu; cases hu
    · rw [if_neg h1] at hu
      exact hG.2.2 x y hx hy hu
theorem up2_same {U : Nat → Nat → Bool} (hs : ∀ a b, a < 4 → b < 4 → U a b = U b a) {a b : Nat} (ha : a < 4) (hb : b < 4) : ∀ x y, x < 4 → y < 4 → up2 U a b (U a b) x y = U x y := by
  intro x y hx hy
  unfold up2
  by_cases h1 : (x = a ∧ y = b) ∨ (x = b ∧ y = a)
  · rw [if_pos h1]
    rcases h1 with ⟨rfl, rfl⟩ | ⟨rfl, rfl⟩
    · rfl
    · exact hs _ _ ha hb
  · rw [if_neg h1]
theorem ba_congr {f : Nat → Int32} {U V : Nat → Nat → Bool} (h : ∀ a b, a < 4 → b < 4 → U a b = V a b) (hf : ba f U) : ba f V := fun a b ha hb => by rw [hf a b ha hb, h a b ha hb]
/-- within turn t, at (k, m) -/
def apJ (w t : Nat) (R : Nat → Nat → Bool) (P Q : Nat → Bool) (k m : Nat) (U : Nat → Nat → Bool) : Prop := apG w R P Q U ∧ (apS w R U ∨ t + 1 ≤ apC U ∨ (t ≤ apC U ∧ ∀ x y, x < w → y < w → (x < k ∨ x = k ∧ y < m) → U x y = false → met w R U x y = true ∧ met w R U y x = true))
theorem apJ_step {w t : Nat} (hw : w ≤ 4) {R U : Nat → Nat → Bool} {P Q : Nat → Bool} (hR : ∀ a b, R a b = true → a < w ∧ b < w) {k m : Nat} (hk : k < w) (hm : m < w) (hJ : apJ w t R P Q k m U) : ∃ V, (∀ f : Nat → Int32, ba f (up2 U k m (U k m || (!met w R U k m || !met w R U m k))) → ba f V) ∧ apJ w t R P Q k (m + 1) V := by
  obtain ⟨hG, hA⟩ := hJ
  cases hU : U k m
  · cases h1 : met w R U k m
    · refine ⟨up2 U k m true, fun f hf => by simpa using hf, apG_up hw hR hG hU (Or.inl h1), ?_⟩
      have hc := apC_up (by omega) (by omega) hU hG.1
      rcases hA with h | h | h
      · have := (h k m hk hm hU).1
        rw [h1] at this; cases this
      · exact Or.inr (Or.inl (by omega))
      · exact Or.inr (Or.inl (by omega))
    · cases h2 : met w R U m k
      · refine ⟨up2 U k m true, fun f hf => by simpa using hf, apG_up hw hR hG hU (Or.inr h2), ?_⟩
        have hc := apC_up (by omega) (by omega) hU hG.1
        rcases hA with h | h | h
        · have := (h k m hk hm hU).2
          rw [h2] at this; cases this
        · exact Or.inr (Or.inl (by omega))
        · exact Or.inr (Or.inl (by omega))
      · refine ⟨U, fun f hf => ba_congr (by have := up2_same hG.1 (show k < 4 by omega) (show m < 4 by omega); rw [hU] at this; exact this) (by simpa using hf), hG, ?_⟩
        rcases hA with h | h | h
        · exact Or.inl h
        · exact Or.inr (Or.inl h)
        · refine Or.inr (Or.inr ⟨h.1, fun x y hx hy hxy hu => ?_⟩)
          by_cases hq : x < k ∨ x = k ∧ y < m
          · exact h.2 x y hx hy hq hu
          · have e1 : x = k := by omega
            have e2 : y = m := by omega
            subst e1; subst e2
            exact ⟨h1, h2⟩
  · refine ⟨U, fun f hf => ba_congr (by have := up2_same hG.1 (show k < 4 by omega) (show m < 4 by omega); rw [hU] at this; exact this) (by simpa using hf), hG, ?_⟩
    rcases hA with h | h | h
    · exact Or.inl h
    · exact Or.inr (Or.inl h)
    · refine Or.inr (Or.inr ⟨h.1, fun x y hx hy hxy hu => ?_⟩)
      by_cases hq : x < k ∨ x = k ∧ y < m
      · exact h.2 x y hx hy hq hu
      · have e1 : x = k := by omega
        have e2 : y = m := by omega
        subst e1; subst e2
        rw [hU] at hu; cases hu
theorem nar_b (v : Bool) : vp_nar .boolean (if v then 1 else 0) = if v then 1 else 0 := by cases v <;> rfl
theorem layApart_e {w : Nat} (hw : w ≤ 4) {R : Nat → Nat → Bool} {P Q : Nat → Bool} (hR : ∀ a b, R a b = true → a < w ∧ b < w) {f g : Nat → Int32} (hf : ba f R) (hg : mks g P Q) (ap0 : Nat → Int32) : ∃ ap, f_X9_layApart (nI w) f g ap0 = some ap ∧ ∀ a b, a < w → b < w → ap (4 * a + b) = if bsm w R P Q a b then 0 else 1 := by
  unfold f_X9_layApart
  refine k_runG (N := 1000) (fun (o : Option (Nat → Int32)) => ∃ ap : Nat → Int32, o = some ap ∧ ∀ a b, a < w → b < w → ap (4 * a + b) = if bsm w R P Q a b then 0 else 1) 16 (fun (k : Nat) (a : Int32 × (Nat → Int32)) => a.1 = nI k ∧ ∀ j, j < k → a.2 j = if (P (j / 4) == P (j % 4) && Q (j / 4) == Q (j % 4)) then 0 else 1) (by omega) ⟨rfl, fun j hj => absurd hj (Nat.not_lt_zero j)⟩ ?_ ?_ ?_
  · intro rc k a hk hI
    obtain ⟨h1, h2⟩ := hI
    refine ⟨(nI (k + 1), upd a.2 k (if (P (k / 4) == P (k % 4) && Q (k / 4) == Q (k % 4)) then 0 else 1)), ⟨rfl, fun j hj => ?_⟩, ?_⟩
    · dsimp only
      by_cases h : j = k
      · subst h
        rw [pk_us]
      · rw [pk_un h]
        exact h2 j (by omega)
    · dsimp only
      rw [h1, if_neg (show ¬ (16 : Int32) ≤ nI k from nI_nge4 (show 16 < 2 ^ 31 by omega) (show k < 2 ^ 31 by omega) hk)]
      rw [show (4 : Int32) = nI 4 from rfl, pk_div (show k < 2 ^ 31 by omega) (by omega) (by omega), pk_mul, pk_sub (Nat.div_mul_le_self _ _), show k - k / 4 * 4 = k % 4 by omega]
      rw [chk_e (show k / 4 < 4 by omega) (by omega), chk_e (show k % 4 < 4 by omega) (by omega), cl_e (show k / 4 < 2 ^ 31 by omega), cl_e (show k % 4 < 2 ^ 31 by omega), cl_e (show k < 2 ^ 31 by omega), hg (k / 4) (by omega), hg (k % 4) (by omega), chk_e hk (by omega), chk_e hk (by omega), nI_1]
      by_cases h : P (k / 4) = P (k % 4) ∧ Q (k / 4) = Q (k % 4)
      · rw [if_pos ((mkv_inj _ _ _ _).mpr h), if_pos (by simp [h.1, h.2])]
        rfl
      · rw [if_neg (fun q => h ((mkv_inj _ _ _ _).mp q)), if_neg (by simpa using h)]
        rfl
  · intro rc a hI
    dsimp only
    rw [hI.1, if_pos (show (16 : Int32) ≤ nI 16 from nI_ge4 (show 16 < 2 ^ 31 by omega) (show 16 < 2 ^ 31 by omega) (Nat.le_refl 16))]
  · intro a hI
    obtain ⟨h1, h2⟩ := hI
    generalize a.2 = ap1 at h2 ⊢
    have hU0 : ba ap1 (fun a b => !(P a == P b && Q a == Q b)) := by
      intro a b ha hb
      rw [h2 (4 * a + b) (by omega), show (4 * a + b) / 4 = a by omega, show (4 * a + b) % 4 = b by omega]
      exact (by decide : ∀ x : Bool, (if x then (0 : Int32) else 1) = if !x then 1 else 0) _
    have hG0 : apG w R P Q (fun a b => !(P a == P b && Q a == Q b)) := by
      refine ⟨fun a b _ _ => ?_, fun a b h => ?_, fun a b _ _ h => ?_⟩
      · dsimp only
        cases P a <;> cases P b <;> cases Q a <;> cases Q b <;> rfl
      · obtain ⟨e1, e2⟩ := bsm_marks h
        dsimp only
        simp [e1, e2]
      · simpa using h
    refine k_runG (N := 1000) (fun (o : Option (Nat → Int32)) => ∃ ap : Nat → Int32, o = some ap ∧ ∀ a b, a < w → b < w → ap (4 * a + b) = if bsm w R P Q a b then 0 else 1) 16 (fun (t : Nat) (a : Int32 × (Nat → Int32)) => a.1 = nI t ∧ ∃ U, ba a.2 U ∧ apG w R P Q U ∧ (apS w R U ∨ t ≤ apC U)) (by omega) ⟨rfl, _, hU0, hG0, Or.inr (Nat.zero_le _)⟩ ?_ ?_ ?_
    · -- a turn
      intro rc t a ht hI
      obtain ⟨hI1, U, hI2, hI3, hI4⟩ := hI
      dsimp only
      rw [hI1, if_neg (show ¬ (16 : Int32) ≤ nI t from nI_nge4 (show 16 < 2 ^ 31 by omega) (show t < 2 ^ 31 by omega) ht)]
      refine k_runG (N := 1000) (fun (o : Option (Nat → Int32)) => ∃ a' : Int32 × (Nat → Int32), (a'.1 = nI (t + 1) ∧ ∃ U, ba a'.2 U ∧ apG w R P Q U ∧ (apS w R U ∨ t + 1 ≤ apC U)) ∧ o = rc a') w (fun (k : Nat) (a : Int32 × (Nat → Int32)) => a.1 = nI k ∧ ∃ U, ba a.2 U ∧ apJ w t R P Q k 0 U) (by omega) ⟨rfl, U, hI2, hI3, hI4.elim Or.inl (fun h => Or.inr (Or.inr ⟨h, fun x y hx hy hxy => absurd hxy (by omega)⟩))⟩ ?_ ?_ ?_
      · intro rc2 k a hk hJ
        obtain ⟨hJ1, U, hJ2, hJ3⟩ := hJ
        dsimp only
        rw [hJ1, if_neg (nI_nge4 (by omega) (by omega) hk)]
        refine k_runG (N := 1000) (fun (o : Option (Nat → Int32)) => ∃ a' : Int32 × (Nat → Int32), (a'.1 = nI (k + 1) ∧ ∃ U, ba a'.2 U ∧ apJ w t R P Q (k + 1) 0 U) ∧ o = rc2 a') w (fun (m : Nat) (a : Int32 × (Nat → Int32)) => a.1 = nI m ∧ ∃ U, ba a.2 U ∧ apJ w t R P Q k m U) (by omega) ⟨rfl, U, hJ2, hJ3⟩ ?_ ?_ ?_
        · intro rc3 m a hm hM
          obtain ⟨hM1, U, hM2, hM3⟩ := hM
          obtain ⟨V, hV1, hV2⟩ := apJ_step hw hR hk hm hM3
          refine ⟨(nI (m + 1), upd (upd a.2 (4 * k + m) (if (U k m || (!met w R U k m || !met w R U m k)) then 1 else 0)) (4 * m + k) (if (U k m || (!met w R U k m || !met w R U m k)) then 1 else 0)), ⟨rfl, V, hV1 _ (ba_up2 hM2 (by omega) (by omega) _), hV2⟩, ?_⟩
          dsimp only
          rw [hM1, if_neg (nI_nge4 (by omega) (by omega) hm), nI_mul4, nI_mul4, chk_e (show 4 * k + m < 16 by omega) (by omega), cl_e (show 4 * k + m < 2 ^ 31 by omega), cl_e (show 4 * m + k < 2 ^ 31 by omega), hM2 k m (by omega) (by omega), isMet_e hw hf hM2 (show k < 4 by omega) (show m < 4 by omega), isMet_e hw hf hM2 (show m < 4 by omega) (show k < 4 by omega), nI_1]
          have e : (if (if U k m = true then (1 : Int32) else 0) = 0 then Option.bind (some (if met w R U k m = true then (1 : Int32) else 0)) (fun (q88 : Int32) => (if q88 = 0 then some 1 else Option.bind (some (if met w R U m k = true then (1 : Int32) else 0)) (fun (q97 : Int32) => (if q97 = 0 then some 1 else some 0)))) else some (1 : Int32)) = some (if (U k m || (!met w R U k m || !met w R U m k)) then 1 else 0) := by
            cases U k m <;> cases met w R U k m <;> cases met w R U m k <;> rfl
          rw [e, Option.bind_some, chk_e (show 4 * k + m < 16 by omega) (by omega), chk_e (show 4 * m + k < 16 by omega) (by omega), nar_b]
        · intro rc3 a hM
          dsimp only
          rw [hM.1, if_pos (nI_ge4 (by omega) (by omega) (Nat.le_refl w))]
        · intro a hM
          obtain ⟨hM1, V, hb1, hb2, hb3⟩ := hM
          refine ⟨(nI (k + 1), a.2), ⟨rfl, V, hb1, hb2, ?_⟩, by rw [nI_1]⟩
          rcases hb3 with h | h | h
          · exact Or.inl h
          · exact Or.inr (Or.inl h)
          · refine Or.inr (Or.inr ⟨h.1, fun x y hx hy hxy hu => h.2 x y hx hy ?_ hu⟩)
            omega
      · intro rc2 a hJ
        dsimp only
        rw [hJ.1, if_pos (nI_ge4 (by omega) (by omega) (Nat.le_refl w))]
      · intro a hJ
        obtain ⟨hJ1, V, hb1, hb2, hb3⟩ := hJ
        refine ⟨(nI (t + 1), a.2), ⟨rfl, V, hb1, hb2, ?_⟩, by rw [nI_1]⟩
        rcases hb3 with h | h | h
        · exact Or.inl h
        · exact Or.inr h
        · exact Or.inl (fun x y hx hy hu => h.2 x y hx hy (Or.inl hx) hu)
    · intro rc a hI
      dsimp only
      rw [hI.1, if_pos (show (16 : Int32) ≤ nI 16 from nI_ge4 (show 16 < 2 ^ 31 by omega) (show 16 < 2 ^ 31 by omega) (Nat.le_refl 16))]
    · intro a hI
      obtain ⟨-, U, hb1, hb2, hb3⟩ := hI
      refine ⟨a.2, rfl, fun x y hx hy => ?_⟩
      have hst : apS w R U := by
        rcases hb3 with h | h
        · exact h
        · exfalso
          have h16 := fb_ct_all.mp (Nat.le_antisymm (fb_ct_le _ _) h) (4 * x + x) (by omega)
          rw [show (4 * x + x) / 4 = x by omega, show (4 * x + x) % 4 = x by omega, hb2.2.1 x x (bsm_refl hw R P Q hx)] at h16
          cases h16
      rw [hb1 x y (by omega) (by omega)]
      cases hU : U x y
      · have hT := bsm_max (w := w) hw (R := R) (P := P) (Q := Q) (T := fun a b => decide (a < w) && decide (b < w) && !U a b) (fun a b h => by
            simp only [Bool.and_eq_true, decide_eq_true_eq, Bool.not_eq_true'] at h
            exact ⟨h.1.1, h.1.2, hb2.2.2 a b h.1.1 h.1.2 h.2⟩) (fun a b c h hc hac => by
            simp only [Bool.and_eq_true, decide_eq_true_eq, Bool.not_eq_true'] at h
            obtain ⟨d, k1, k2, k3⟩ := met_iff.mp (hst a b h.1.1 h.1.2 h.2).1 c hc hac
            exact ⟨d, k1, k2, by simp [hc, k1, k3]⟩) (fun a b h => by
            simp only [Bool.and_eq_true, decide_eq_true_eq, Bool.not_eq_true'] at h
            simp [h.1.1, h.1.2, ← hb2.1 a b (by omega) (by omega), h.2]) x y (by simp [hx, hy, hU])
        rw [hT]
        rfl
      · cases hB : bsm w R P Q x y
        · rfl
        · rw [hb2.2.1 x y hB] at hU
          cases hU
theorem twinOf_e {w : Nat} (hw : w ≤ 4) {R : Nat → Nat → Bool} {P Q : Nat → Bool} {ap : Nat → Int32} (hap : ∀ a b, a < w → b < w → ap (4 * a + b) = if bsm w R P Q a b then 0 else 1) {a : Nat} (ha : a < w) : f_X9_twinOf ap (nI a) = some (nI (lwb w R P Q a)) := by
  unfold f_X9_twinOf
  obtain ⟨g1, g2, g3⟩ := lwb_spec hw R P Q ha
  refine k_srchG (N := 1000) (fun (o : Option Int32) => o = some (nI (lwb w R P Q a))) a (fun k => nI k) (fun k => !bsm w R P Q a k) (fun k => some (nI k)) (by omega) rfl ?_ ?_ ?_ ?_
  · intro rc k hk
    dsimp only
    rw [if_neg (nI_nge4 (by omega) (by omega) hk), nI_mul4, chk_e (show 4 * a + k < 16 by omega) (by omega), cl_e (show 4 * a + k < 2 ^ 31 by omega), hap a k ha (by omega), nI_1]
    cases bsm w R P Q a k <;> rfl
  · intro rc
    dsimp only
    rw [if_pos (nI_ge4 (by omega) (by omega) (Nat.le_refl a))]
  · intro k h1 h2 h3
    congr 2
    have h5 : bsm w R P Q a k = true := by simpa using h2
    rcases Nat.lt_trichotomy k (lwb w R P Q a) with h | h | h
    · rw [g3 k h] at h5; cases h5
    · exact h
    · have := h3 _ h
      rw [g2] at this; cases this
  · intro h1
    congr 2
    rcases Nat.lt_or_ge (lwb w R P Q a) a with h | h
    · have := h1 _ h
      rw [g2] at this; cases this
    · omega
