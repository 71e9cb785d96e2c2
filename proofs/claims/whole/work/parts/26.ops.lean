/-! what is done to a frame, both ways -/
theorem i10 : ((1 : Int32) = 0) = False := eq_false (by decide)
theorem i00 : ((0 : Int32) = 0) = True := eq_true rfl
def okF (w : Nat) (R : Nat → Nat → Bool) (P Q : Nat → Bool) : Prop := w ≤ 4 ∧ (∀ a b, R a b = true → a < w ∧ b < w) ∧ (∀ a, P a = true → a < w) ∧ (∀ a, Q a = true → a < w)
/-- the class's frame and the reference's are the same: kind kk, w worlds, arrows R, marks P, Q -/
def RFr (kk w : Nat) (R : Nat → Nat → Bool) (P Q : Nat → Bool) (k1 w1 A p q k2 w2 : Int32) (arr mk : Nat → Int32) : Prop :=
  kk < 5 ∧ okF w R P Q ∧ k1 = nI kk ∧ k2 = nI kk ∧ w1 = nI w ∧ w2 = nI w ∧ A = eA R ∧ p = bI 4 P ∧ q = bI 4 Q ∧ ba arr R ∧ mks mk P Q
def RF (k1 w1 A p q k2 w2 : Int32) (arr mk : Nat → Int32) : Prop := ∃ kk w R P Q, RFr kk w R P Q k1 w1 A p q k2 w2 arr mk
theorem hasFrame_e {w : Nat} (hw : w < 2 ^ 31) : f_X8_hasFrame (nI w) = if w = 0 then 0 else 1 := by
  unfold f_X8_hasFrame
  by_cases h : w = 0
  · subst h; rfl
  · rw [if_neg (nI_nle (by omega) hw), if_neg h]
theorem isFrame_e {w : Nat} (hw : w < 2 ^ 31) : f_X9_isFrame (nI w) = if w = 0 then 0 else 1 := hasFrame_e hw
theorem isKind_e (x : Int32) : f_X9_isKind x = some (f_X9_within x 0 4) := by
  unfold f_X9_isKind f_X9_within
  split
  · rfl
  · split <;> rfl
theorem idx_k (x : Int32) (n : Nat) (m : Int32) (hn : n < 2 ^ 31) (hm : m = nI n - 1) : (∃ k, k < n ∧ x = nI k ∧ f_X8_isBelow x (nI n) = 1 ∧ f_X9_within x 0 m = 1) ∨ (f_X8_isBelow x (nI n) = 0 ∧ f_X9_within x 0 m = 0) := by
  subst hm
  exact idx_e x hn
theorem toInt_e (b : Bool) : f_X8_toInt (if b then 1 else 0) = if b then 1 else 0 := by cases b <;> rfl
theorem w_lt {w : Nat} (h : w ≤ 4) : w < 2 ^ 31 := by omega
theorem st_as {k1 w1 A p q k2 w2 : Int32} {arr mk : Nat → Int32} (h : RF k1 w1 A p q k2 w2 arr mk) (x : Int32) : ∃ r, f_X8_as k1 w1 x = r ∧ f_X9_as k2 w2 x = some r := by
  obtain ⟨kk, w, R, P, Q, hk, ok, rfl, rfl, rfl, rfl, -⟩ := h
  refine ⟨_, rfl, ?_⟩
  unfold f_X9_as f_X8_as
  rw [isKind_e, Option.bind_some, hasFrame_e (w_lt ok.1), isFrame_e (w_lt ok.1)]
  rcases idx_k x 5 4 (by omega) (by decide) with ⟨j, h1, rfl, h3, h4⟩ | ⟨h3, h4⟩
  · simp only [show f_X8_isBelow (nI j) 5 = 1 from h3, h4, i10, if_false]
    by_cases hw : w = 0
    · rw [if_pos hw]; simp only [i00, if_true]
    · rw [if_neg hw]; simp only [i10, if_false]
      unfold f_X8_isType
      have key : ∀ j, j < 5 → ∀ kk, kk < 5 → (if nI j = 0 then some (nI kk) else if nI j = nI kk then some (nI kk) else if nI j = 1 then (if nI kk = 2 then some (nI kk) else some (-1)) else some (-1)) = some (if (if nI j = 0 then (1 : Int32) else if nI j = nI kk then 1 else if nI kk = 2 then (if nI j = 1 then 1 else 0) else 0) = 0 then -1 else nI kk) := by decide +kernel
      exact key j h1 kk hk
  · simp only [show f_X8_isBelow x 5 = 0 from h3, h4, i00, if_true]
theorem st_arrow {k1 w1 A p q k2 w2 : Int32} {arr mk : Nat → Int32} (h : RF k1 w1 A p q k2 w2 arr mk) (x y : Int32) : ∃ r, f_X8_arrow w1 A x y = r ∧ f_X9_arrow w2 arr x y = some r := by
  obtain ⟨kk, w, R, P, Q, hk, ok, rfl, rfl, rfl, rfl, rfl, rfl, rfl, hb, hm⟩ := h
  have h4 := ok.1
  refine ⟨_, rfl, ?_⟩
  unfold f_X9_arrow f_X8_arrow
  rw [isWorld_e, isWorld_e, Option.bind_some, Option.bind_some]
  rcases idx_e x (w_lt ok.1) with ⟨a, h1, rfl, h2, h3⟩ | ⟨h2, h3⟩
  · simp only [h2, h3, i10, if_false]
    rcases idx_e y (w_lt ok.1) with ⟨b, g1, rfl, g2, g3⟩ | ⟨g2, g3⟩
    · simp only [g2, g3, i10, if_false]
      rw [arrowNow_e hb (show a < 4 by omega) (show b < 4 by omega), Option.bind_some, has_e R (show a < 4 by omega) (show b < 4 by omega), toInt_e]
    · simp only [g2, g3, i00, if_true]
  · simp only [h2, h3, i00, if_true]
theorem st_be {k1 w1 A p q k2 w2 : Int32} {arr mk : Nat → Int32} (h : RF k1 w1 A p q k2 w2 arr mk) (x : Int32) : ∃ r k1' k2', f_X8_be k1 w1 x = (r, k1') ∧ f_X9_be k2 w2 x = some (r, k2') ∧ RF k1' w1 A p q k2' w2 arr mk := by
  obtain ⟨kk, w, R, P, Q, hk, ok, rfl, rfl, rfl, rfl, hr⟩ := h
  unfold f_X9_be f_X8_be
  rw [isKind_e, Option.bind_some, hasFrame_e (w_lt ok.1), isFrame_e (w_lt ok.1)]
  rcases idx_k x 5 4 (by omega) (by decide) with ⟨j, h1, rfl, h3, h4⟩ | ⟨h3, h4⟩
  · simp only [show f_X8_isBelow (nI j) 5 = 1 from h3, h4, i10, if_false]
    by_cases hw : w = 0
    · rw [if_pos hw]; simp only [i00, if_true]
      exact ⟨_, _, _, rfl, rfl, kk, w, R, P, Q, hk, ok, rfl, rfl, rfl, rfl, hr⟩
    · rw [if_neg hw]; simp only [i10, if_false]
      exact ⟨_, _, _, rfl, rfl, j, w, R, P, Q, h1, ok, rfl, rfl, rfl, rfl, hr⟩
  · simp only [show f_X8_isBelow x 5 = 0 from h3, h4, i00, if_true]
    exact ⟨_, _, _, rfl, rfl, kk, w, R, P, Q, hk, ok, rfl, rfl, rfl, rfl, hr⟩
theorem keepsTold_e {law w : Nat} (hl : law < 5) {R : Nat → Nat → Bool} {P Q : Nat → Bool} (ok : okF w R P Q) {arr mk : Nat → Int32} (hb : ba arr R) (hm : mks mk P Q) (m a b : Int32) (to : Nat → Int32) : f_X9_keepsTold (nI w) m a b arr mk to (nI law) = some (if obs law w R then 1 else 0, nI w, bI 4 P, bI 4 Q, rows_ w R to) := by
  unfold f_X9_keepsTold
  rw [layFrame_e ok.1 ok.2.1 ok.2.2.1 ok.2.2.2 hb hm, Option.bind_some]
  dsimp only
  rw [keepsNow_e hl (rows_lk w R to) ok.1, Option.bind_some]
  cases obs law w R <;> rfl
theorem st_keeps {k1 w1 A p q k2 w2 : Int32} {arr mk : Nat → Int32} (h : RF k1 w1 A p q k2 w2 arr mk) (m a b : Int32) (to : Nat → Int32) (x : Int32) : ∃ r m' a' b' to', f_X8_keeps w1 A x = some r ∧ f_X9_keeps w2 m a b arr mk to x = some (r, m', a', b', to') := by
  obtain ⟨kk, w, R, P, Q, hk, ok, rfl, rfl, rfl, rfl, rfl, rfl, rfl, hb, hm⟩ := h
  unfold f_X9_keeps f_X8_keeps
  rw [hasFrame_e (w_lt ok.1), isFrame_e (w_lt ok.1)]
  rcases idx_k x 5 4 (by omega) (by decide) with ⟨j, h1, rfl, h3, h4⟩ | ⟨h3, h4⟩
  · simp only [show f_X8_isBelow (nI j) 5 = 1 from h3, h4, i10, if_false]
    by_cases hw : w = 0
    · rw [if_pos hw]; simp only [i00, if_true]
      exact ⟨_, _, _, _, _, rfl, rfl⟩
    · rw [if_neg hw]; simp only [i10, if_false]
      rw [keepsTold_e h1 ok hb hm, Option.bind_some, obeys_e h1 ok.1 ok.2.1, Option.bind_some, toInt_e]
      exact ⟨_, _, _, _, _, rfl, rfl⟩
  · simp only [show f_X8_isBelow x 5 = 0 from h3, h4, i00, if_true]
    exact ⟨_, _, _, _, _, rfl, rfl⟩
theorem st_mark {k1 w1 A p q k2 w2 : Int32} {arr mk : Nat → Int32} (h : RF k1 w1 A p q k2 w2 arr mk) (x y : Int32) : ∃ r p' q' mk', f_X8_mark w1 p q x y = (r, p', q') ∧ f_X9_mark w2 mk x y = some (r, mk') ∧ RF k1 w1 A p' q' k2 w2 arr mk' := by
  have h0 := h
  obtain ⟨kk, w, R, P, Q, hk, ok, rfl, rfl, rfl, rfl, rfl, rfl, rfl, hb, hm⟩ := h
  have h4 := ok.1
  unfold f_X9_mark f_X8_mark
  rw [isWorld_e, Option.bind_some]
  rcases idx_e x (w_lt ok.1) with ⟨a, h1, rfl, h2, h3⟩ | ⟨h2, h3⟩
  · simp only [h2, h3, i10, if_false]
    rcases idx_k y 4 3 (by omega) (by decide) with ⟨j, g1, rfl, g2, g3⟩ | ⟨g2, g3⟩
    · simp only [show f_X8_isBelow (nI j) 4 = 1 from g2, g3, i10, if_false]
      rw [chk_e (show a < 4 by omega) (by omega), chk_e (show a < 4 by omega) (by omega), cl_e (show a < 2 ^ 31 by omega), hm a (by omega), marks_e P Q (show a < 4 by omega)]
      simp only [k_let]
      have hbit : ∀ j, j < 4 → f_X8_bit (nI j) 0 = (if (decide (j % 2 = 1)) then 1 else 0) ∧ f_X8_bit (nI j) 1 = (if (decide (2 ≤ j)) then 1 else 0) ∧ nI j = mkv (decide (j % 2 = 1)) (decide (2 ≤ j)) := by decide +kernel
      obtain ⟨b1, b2, b3⟩ := hbit j g1
      have e : f_X2_setMarks (bI 4 P) (bI 4 Q) (nI a) (nI j) = (bI 4 (fun i => if i = a then decide (j % 2 = 1) else P i), bI 4 (fun i => if i = a then decide (2 ≤ j) else Q i)) := by
        unfold f_X2_setMarks
        simp only [k_let]
        rw [b1, b2, e_setMark P (show a < 4 by omega), e_setMark Q (show a < 4 by omega)]
      rw [e]
      refine ⟨_, _, _, _, rfl, rfl, kk, w, R, _, _, hk, ⟨ok.1, ok.2.1, fun i hi => ?_, fun i hi => ?_⟩, rfl, rfl, rfl, rfl, rfl, rfl, rfl, hb, fun i hi => ?_⟩
      · by_cases hia : i = a
        · rw [hia]; exact h1
        · rw [if_neg hia] at hi; exact ok.2.2.1 i hi
      · by_cases hia : i = a
        · rw [hia]; exact h1
        · rw [if_neg hia] at hi; exact ok.2.2.2 i hi
      · dsimp only
        by_cases hia : i = a
        · subst hia
          rw [pk_us, if_pos rfl, if_pos rfl, b3]
        · rw [pk_un hia, if_neg hia, if_neg hia]
          exact hm i hi
    · simp only [show f_X8_isBelow y 4 = 0 from g2, g3, i00, if_true]
      exact ⟨_, _, _, _, rfl, rfl, h0⟩
  · simp only [h2, h3, i00, if_true]
    exact ⟨_, _, _, _, rfl, rfl, h0⟩
def bi (b : Bool) : Int32 := if b then 1 else 0
theorem ba_mk {f : Nat → Int32} {R : Nat → Nat → Bool} (h : ∀ a b, a < 4 → b < 4 → f (4 * a + b) = bi (R a b)) : ba f R := h
theorem ba_get {f : Nat → Int32} {R : Nat → Nat → Bool} (h : ba f R) {a b : Nat} (ha : a < 4) (hb : b < 4) : f (4 * a + b) = bi (R a b) := h a b ha hb
theorem nar_bi (v : Bool) : vp_nar .boolean (bi v) = bi v := nar_b v
theorem emptyWorld_e {arr mk : Nat → Int32} {M : Nat → Nat → Bool} (hb : ba arr M) {a : Nat} (ha : a < 4) : ∃ arr', f_X9_emptyWorld arr mk (nI a) = some (arr', upd mk a 0) ∧ ba arr' (fun x y => if x = a ∨ y = a then false else M x y) := by
  unfold f_X9_emptyWorld
  rw [chk_e ha (by omega), cl_e (show a < 2 ^ 31 by omega)]
  refine k_runG (N := 1000) (fun (o : Option ((Nat → Int32) × (Nat → Int32))) => ∃ arr' : Nat → Int32, o = some (arr', upd mk a 0) ∧ ba arr' (fun x y => if x = a ∨ y = a then false else M x y)) 4 (fun (k : Nat) (s : Int32 × (Nat → Int32)) => s.1 = nI k ∧ ba s.2 (fun x y => if (x = a ∧ y < k) ∨ (y = a ∧ x < k) then false else M x y)) (by omega) ⟨rfl, ba_mk (fun x y hx hy => by dsimp only; rw [ba_get hb hx hy, if_neg (show ¬ ((x = a ∧ y < 0) ∨ (y = a ∧ x < 0)) by omega)])⟩ ?_ ?_ ?_
  · intro rc k s hk hI
    obtain ⟨h1, h2⟩ := hI
    refine ⟨(nI (k + 1), upd (upd s.2 (4 * a + k) 0) (4 * k + a) 0), ⟨rfl, ba_mk (fun x y hx hy => ?_)⟩, ?_⟩
    · dsimp only
      by_cases g1 : x = k ∧ y = a
      · rw [g1.1, g1.2, pk_us, if_pos (show (k = a ∧ a < k + 1) ∨ (a = a ∧ k < k + 1) by omega)]; rfl
      · rw [pk_un (by omega)]
        by_cases g2 : x = a ∧ y = k
        · rw [g2.1, g2.2, pk_us, if_pos (show (a = a ∧ k < k + 1) ∨ (k = a ∧ a < k + 1) by omega)]; rfl
        · rw [pk_un (by omega), ba_get h2 hx hy]
          by_cases g3 : (x = a ∧ y < k) ∨ (y = a ∧ x < k)
          · rw [if_pos g3, if_pos (show (x = a ∧ y < k + 1) ∨ (y = a ∧ x < k + 1) by omega)]
          · rw [if_neg g3, if_neg (show ¬ ((x = a ∧ y < k + 1) ∨ (y = a ∧ x < k + 1)) by omega)]
    · dsimp only
      rw [h1, if_neg (show ¬ (4 : Int32) ≤ nI k from nI_nge4 (show 4 < 2 ^ 31 by omega) (show k < 2 ^ 31 by omega) hk), nI_mul4, nI_mul4, chk_e (show 4 * a + k < 16 by omega) (by omega), chk_e (show 4 * k + a < 16 by omega) (by omega), cl_e (show 4 * a + k < 2 ^ 31 by omega), cl_e (show 4 * k + a < 2 ^ 31 by omega), nI_1]
      rfl
  · intro rc s hI
    dsimp only
    rw [hI.1, if_pos (show (4 : Int32) ≤ nI 4 from nI_ge4 (show 4 < 2 ^ 31 by omega) (show 4 < 2 ^ 31 by omega) (Nat.le_refl 4))]
  · intro s hI
    refine ⟨s.2, rfl, ba_mk (fun x y hx hy => ?_)⟩
    rw [ba_get hI.2 hx hy]
    by_cases g3 : x = a ∨ y = a
    · rw [if_pos g3, if_pos (show (x = a ∧ y < 4) ∨ (y = a ∧ x < 4) by omega)]
    · rw [if_neg g3, if_neg (show ¬ ((x = a ∧ y < 4) ∨ (y = a ∧ x < 4)) by omega)]
theorem st_add {k1 w1 A p q k2 w2 : Int32} {arr mk : Nat → Int32} (h : RF k1 w1 A p q k2 w2 arr mk) : ∃ r w1' w2' arr' mk', f_X8_add w1 = (r, w1') ∧ f_X9_add w2 arr mk = some (r, w2', arr', mk') ∧ RF k1 w1' A p q k2 w2' arr' mk' ∧ (w1 = 0 → w1' = 0) := by
  have h0 := h
  obtain ⟨kk, w, R, P, Q, hk, ok, rfl, rfl, rfl, rfl, rfl, rfl, rfl, hb, hm⟩ := h
  have h4 := ok.1
  unfold f_X9_add f_X8_add
  rw [hasFrame_e (w_lt ok.1), isFrame_e (w_lt ok.1)]
  by_cases hw : w = 0
  · rw [if_pos hw]; simp only [i00, if_true]
    exact ⟨_, _, _, _, _, rfl, rfl, h0, fun z => z⟩
  · rw [if_neg hw]; simp only [i10, if_false]
    by_cases h5 : w = 4
    · subst h5
      exact ⟨_, _, _, _, _, rfl, rfl, h0, fun z => z⟩
    · rw [if_pos (show nI w < 4 from (nI_ltI (w_lt ok.1) (show 4 < 2 ^ 31 by omega)).mpr (by omega)), if_neg (show ¬ nI w = 4 from nI_ne (w_lt ok.1) (show 4 < 2 ^ 31 by omega) h5)]
      obtain ⟨arr', e1, e2⟩ := emptyWorld_e (mk := mk) hb (show w < 4 by omega)
      rw [e1, Option.bind_some, nI_1]
      refine ⟨_, _, _, _, _, rfl, rfl, ⟨kk, w + 1, R, P, Q, hk, ⟨by omega, fun a b hab => ?_, fun a ha => ?_, fun a ha => ?_⟩, rfl, rfl, rfl, rfl, rfl, rfl, rfl, ba_mk (fun x y hx hy => ?_), fun i hi => ?_⟩, fun z => absurd z (nI_ne0 (by omega) (w_lt ok.1))⟩
      · have := ok.2.1 a b hab; omega
      · have := ok.2.2.1 a ha; omega
      · have := ok.2.2.2 a ha; omega
      · dsimp only
        rw [ba_get e2 hx hy]
        by_cases g : x = w ∨ y = w
        · rw [if_pos g]
          cases hR : R x y
          · rfl
          · have := ok.2.1 x y hR; omega
        · rw [if_neg g]
      · dsimp only
        by_cases g : i = w
        · subst g
          rw [pk_us]
          cases hp : P i
          · cases hq : Q i
            · rfl
            · have := ok.2.2.2 i hq; omega
          · have := ok.2.2.1 i hp; omega
        · rw [pk_un g]
          exact hm i hi
/-! a world taken out -/
def sh (t z : Nat) : Nat := if z < t then z else z + 1
def dr (t : Nat) (R : Nat → Nat → Bool) : Nat → Nat → Bool := fun x y => R (sh t x) (sh t y)
def dq (t : Nat) (P : Nat → Bool) : Nat → Bool := fun x => P (sh t x)
theorem okF_dr {w t : Nat} {R : Nat → Nat → Bool} {P Q : Nat → Bool} (ok : okF w R P Q) (ht : t < w) : okF (w - 1) (dr t R) (dq t P) (dq t Q) := by
  have key : ∀ x, sh t x < w → x < w - 1 := by
    intro x h
    unfold sh at h
    by_cases g : x < t
    · omega
    · rw [if_neg g] at h; omega
  exact ⟨by have := ok.1; omega, fun a b h => ⟨key a (ok.2.1 _ _ h).1, key b (ok.2.1 _ _ h).2⟩, fun a h => key a (ok.2.2.1 _ h), fun a h => key a (ok.2.2.2 _ h)⟩
theorem without_e {w t : Nat} (hw : w ≤ 4) (ht : t < w) {S : Nat → Bool} (hS : ∀ a, S a = true → a < w) : f_X2_without (bI 4 S) (nI t) = bI 4 (fun i => S (sh t i)) := by
  rw [e_without S (show t < 4 by omega)]
  refine bI_congr (fun i hi => ?_)
  unfold sh
  by_cases h : i < t
  · rw [if_pos h, if_pos h]
  · rw [if_neg h, if_neg h]
    by_cases h3 : i < 3
    · rw [decide_eq_true h3]; rfl
    · rw [decide_eq_false h3]
      cases h5 : S (i + 1)
      · rfl
      · have := hS _ h5; omega
theorem drop_e {w t : Nat} {R : Nat → Nat → Bool} {P Q : Nat → Bool} (ok : okF w R P Q) (ht : t < w) : f_X2_drop (nI w) (eA R) (bI 4 P) (bI 4 Q) (nI t) = some (nI (w - 1), eA (dr t R), bI 4 (dq t P), bI 4 (dq t Q)) := by
  have hw := ok.1
  unfold f_X2_drop
  refine k_runG (N := 1000) (fun (o : Option (Int32 × Int32 × Int32 × Int32)) => o = some (nI (w - 1), eA (dr t R), bI 4 (dq t P), bI 4 (dq t Q))) w (fun (k : Nat) (s : Int32 × Int32) => s.2 = nI k ∧ s.1 = eA (fun x y => decide (x < if k ≤ t then k else k - 1) && dr t R x y)) (by omega) ⟨rfl, by
      dsimp only
      rw [← eA_0]
      exact eA_congr (fun x y _ _ => by simp)⟩ ?_ ?_ ?_
  · intro rc k s hk hI
    obtain ⟨h1, h2⟩ := hI
    refine ⟨(eA (fun x y => decide (x < if k + 1 ≤ t then k + 1 else k + 1 - 1) && dr t R x y), nI (k + 1)), ⟨rfl, rfl⟩, ?_⟩
    dsimp only
    rw [h1, h2, if_neg (nI_nge4 (by omega) (by omega) hk), nI_1]
    by_cases hkt : k = t
    · subst hkt
      rw [if_pos rfl, if_pos (Nat.le_refl k), if_neg (show ¬ k + 1 ≤ k by omega)]
      rfl
    · rw [if_neg (nI_ne (by omega) (by omega) hkt), row_e R (show k < 4 by omega), without_e hw ht (fun a h => (ok.2.1 _ _ h).2)]
      have hpl : ∀ pl : Nat, pl < 4 → sh t pl = k → (if k ≤ t then k else k - 1) = pl → (if k + 1 ≤ t then k + 1 else k + 1 - 1) = pl + 1 → eA (fun x y => decide (x < if k ≤ t then k else k - 1) && dr t R x y) ||| (bI 4 (fun i => R k (sh t i)) <<< ((4 * nI pl) &&& 31)) = eA (fun x y => decide (x < if k + 1 ≤ t then k + 1 else k + 1 - 1) && dr t R x y) := by
        intro pl h4 h5 h6 h7
        rw [show ∀ A B : Int32, A ||| (B <<< ((4 * nI pl) &&& 31)) = f_X2_join A (nI pl) B from fun _ _ => rfl, e_join _ _ h4, h6, h7]
        refine eA_congr (fun x y hx hy => ?_)
        by_cases g : x = pl
        · subst g
          rw [decide_eq_false (show ¬ x < x by omega), decide_eq_true (rfl : x = x), decide_eq_true (show x < x + 1 by omega), show dr t R x y = R k (sh t y) by unfold dr; rw [h5]]
          simp
        · by_cases g2 : x < pl
          · rw [decide_eq_true g2, decide_eq_false g, decide_eq_true (show x < pl + 1 by omega)]
            simp
          · rw [decide_eq_false g2, decide_eq_false g, decide_eq_false (show ¬ x < pl + 1 by omega)]
            simp
      by_cases hlt : k < t
      · rw [if_neg (show ¬ nI t ≤ nI k from nI_nge4 (by omega) (by omega) hlt), Option.bind_some]
        simp only [k_let]
        rw [hpl k (by omega) (by unfold sh; rw [if_pos hlt]) (if_pos (by omega)) (if_pos (by omega))]
      · rw [if_pos (show nI t ≤ nI k from nI_ge4 (by omega) (by omega) (by omega)), Option.bind_some]
        simp only [k_let]
        rw [show (1 : Int32) = nI 1 from rfl, pk_sub (show 1 ≤ k by omega)]
        rw [hpl (k - 1) (by omega) (by unfold sh; rw [if_neg (by omega)]; omega) (if_neg (by omega)) (by rw [if_neg (by omega)]; omega)]
  · intro rc s hI
    dsimp only
    rw [hI.1, if_pos (nI_ge4 (by omega) (by omega) (Nat.le_refl w))]
  · intro s hI
    rw [hI.2, if_neg (show ¬ w ≤ t by omega), show (1 : Int32) = nI 1 from rfl, pk_sub (show 1 ≤ w by omega), without_e hw ht ok.2.2.1, without_e hw ht ok.2.2.2]
    have e : eA (fun x y => decide (x < w - 1) && dr t R x y) = eA (dr t R) := eA_congr (fun x y hx hy => by
      cases h : dr t R x y
      · simp
      · simp [((okF_dr ok ht).2.1 x y h).1])
    rw [e]
    rfl
theorem mv_idx (a : Nat) : (4 : Int32) * nI a + 4 = nI (4 * (a + 1)) := by rw [nI_mul4', show (4 : Int32) = nI 4 from rfl, nI_add]; rfl
def sg (a z : Nat) : Nat := if z = a then a + 1 else z
theorem moveDown_e {arr mk : Nat → Int32} {M : Nat → Nat → Bool} (hb : ba arr M) {a : Nat} (ha : a < 3) : ∃ arr', f_X9_moveDown arr mk (nI a) = some (arr', upd mk a (mk (a + 1))) ∧ ba arr' (fun x y => M (sg a x) (sg a y)) := by
  unfold f_X9_moveDown
  rw [nI_1, chk_e (show a + 1 < 4 by omega) (by omega), chk_e (show a < 4 by omega) (by omega), cl_e (show a < 2 ^ 31 by omega), cl_e (show a + 1 < 2 ^ 31 by omega)]
  refine k_runG (N := 1000) (fun (o : Option ((Nat → Int32) × (Nat → Int32))) => ∃ arr' : Nat → Int32, o = some (arr', upd mk a (mk (a + 1))) ∧ ba arr' (fun x y => M (sg a x) (sg a y))) 4 (fun (k : Nat) (s : Int32 × (Nat → Int32)) => s.1 = nI k ∧ ba s.2 (fun x y => if x = a ∧ y < k then M (a + 1) y else M x y)) (by omega) ⟨rfl, ba_mk (fun x y hx hy => by dsimp only; rw [ba_get hb hx hy, if_neg (show ¬ (x = a ∧ y < 0) by omega)])⟩ ?_ ?_ ?_
  · intro rc k s hk hI
    obtain ⟨h1, h2⟩ := hI
    refine ⟨(nI (k + 1), upd s.2 (4 * a + k) (bi (M (a + 1) k))), ⟨rfl, ba_mk (fun x y hx hy => ?_)⟩, ?_⟩
    · dsimp only
      by_cases g1 : x = a ∧ y = k
      · rw [g1.1, g1.2, pk_us, if_pos (show a = a ∧ k < k + 1 by omega)]
      · rw [pk_un (by omega), ba_get h2 hx hy]
        by_cases g3 : x = a ∧ y < k
        · rw [if_pos g3, if_pos (show x = a ∧ y < k + 1 by omega)]
        · rw [if_neg g3, if_neg (show ¬ (x = a ∧ y < k + 1) by omega)]
    · dsimp only
      have hv : s.2 (4 * (a + 1) + k) = bi (M (a + 1) k) := by
        rw [ba_get h2 (show a + 1 < 4 by omega) hk]
        rw [if_neg (show ¬ (a + 1 = a ∧ k < k) by omega)]
      rw [h1, if_neg (show ¬ (4 : Int32) ≤ nI k from nI_nge4 (show 4 < 2 ^ 31 by omega) (show k < 2 ^ 31 by omega) hk), mv_idx, nI_add, nI_mul4, chk_e (show 4 * (a + 1) + k < 16 by omega) (by omega), chk_e (show 4 * a + k < 16 by omega) (by omega), cl_e (show 4 * a + k < 2 ^ 31 by omega), cl_e (show 4 * (a + 1) + k < 2 ^ 31 by omega), hv, nar_bi, nI_1]
  · intro rc s hI
    dsimp only
    rw [hI.1, if_pos (show (4 : Int32) ≤ nI 4 from nI_ge4 (show 4 < 2 ^ 31 by omega) (show 4 < 2 ^ 31 by omega) (Nat.le_refl 4))]
  · intro s hI
    obtain ⟨-, hI2⟩ := hI
    generalize s.2 = arr1 at hI2 ⊢
    refine k_runG (N := 1000) (fun (o : Option ((Nat → Int32) × (Nat → Int32))) => ∃ arr' : Nat → Int32, o = some (arr', upd mk a (mk (a + 1))) ∧ ba arr' (fun x y => M (sg a x) (sg a y))) 4 (fun (k : Nat) (s : Int32 × (Nat → Int32)) => s.1 = nI k ∧ ba s.2 (fun x y => if y = a ∧ x < k then M (sg a x) (a + 1) else M (sg a x) y)) (by omega) ⟨rfl, ba_mk (fun x y hx hy => by
        dsimp only
        rw [ba_get hI2 hx hy, if_neg (show ¬ (y = a ∧ x < 0) by omega)]
        unfold sg
        by_cases g : x = a
        · rw [if_pos (show x = a ∧ y < 4 from ⟨g, hy⟩), if_pos g]
        · rw [if_neg (show ¬ (x = a ∧ y < 4) from fun q => g q.1), if_neg g])⟩ ?_ ?_ ?_
    · intro rc k s hk hI
      obtain ⟨h1, h2⟩ := hI
      refine ⟨(nI (k + 1), upd s.2 (4 * k + a) (bi (M (sg a k) (a + 1)))), ⟨rfl, ba_mk (fun x y hx hy => ?_)⟩, ?_⟩
      · dsimp only
        by_cases g1 : x = k ∧ y = a
        · rw [g1.1, g1.2, pk_us, if_pos (show a = a ∧ k < k + 1 by omega)]
        · rw [pk_un (by omega), ba_get h2 hx hy]
          by_cases g3 : y = a ∧ x < k
          · rw [if_pos g3, if_pos (show y = a ∧ x < k + 1 by omega)]
          · rw [if_neg g3, if_neg (show ¬ (y = a ∧ x < k + 1) by omega)]
      · dsimp only
        have hv : s.2 (4 * k + (a + 1)) = bi (M (sg a k) (a + 1)) := by
          rw [ba_get h2 hk (show a + 1 < 4 by omega)]
          rw [if_neg (show ¬ (a + 1 = a ∧ k < k) by omega)]
        rw [h1, if_neg (show ¬ (4 : Int32) ≤ nI k from nI_nge4 (show 4 < 2 ^ 31 by omega) (show k < 2 ^ 31 by omega) hk), nI_mul4, nI_1, show 4 * k + a + 1 = 4 * k + (a + 1) from rfl, chk_e (show 4 * k + (a + 1) < 16 by omega) (by omega), chk_e (show 4 * k + a < 16 by omega) (by omega), cl_e (show 4 * k + a < 2 ^ 31 by omega), cl_e (show 4 * k + (a + 1) < 2 ^ 31 by omega), hv, nar_bi, nI_1]
    · intro rc s hI
      dsimp only
      rw [hI.1, if_pos (show (4 : Int32) ≤ nI 4 from nI_ge4 (show 4 < 2 ^ 31 by omega) (show 4 < 2 ^ 31 by omega) (Nat.le_refl 4))]
    · intro s hI
      refine ⟨s.2, rfl, ba_mk (fun x y hx hy => ?_)⟩
      rw [ba_get hI.2 hx hy]
      by_cases g : y = a
      · rw [if_pos (show y = a ∧ x < 4 from ⟨g, hx⟩)]
        unfold sg
        rw [if_pos g]
      · rw [if_neg (show ¬ (y = a ∧ x < 4) from fun q => g q.1)]
        rw [show sg a y = y by unfold sg; rw [if_neg g]]
theorem takeOut_e {w t : Nat} {R : Nat → Nat → Bool} {P Q : Nat → Bool} (ok : okF w R P Q) (ht : t < w) {arr mk : Nat → Int32} (hb : ba arr R) (hm : mks mk P Q) : ∃ arr' mk', f_X9_takeOut (nI w) arr mk (nI t) = some (nI (w - 1), arr', mk') ∧ ba arr' (dr t R) ∧ mks mk' (dq t P) (dq t Q) := by
  have hw := ok.1
  unfold f_X9_takeOut
  rw [show (1 : Int32) = nI 1 from rfl, pk_sub (show 1 ≤ w by omega)]
  -- so far as k worlds are moved: those from t to t + k
  refine k_runG (N := 1000) (fun (o : Option (Int32 × (Nat → Int32) × (Nat → Int32))) => ∃ arr' mk' : Nat → Int32, o = some (nI (w - 1), arr', mk') ∧ ba arr' (dr t R) ∧ mks mk' (dq t P) (dq t Q)) (w - 1 - t) (fun (k : Nat) (s : Int32 × (Nat → Int32) × (Nat → Int32)) => s.1 = nI (t + k) ∧ ba s.2.1 (fun x y => R (if t ≤ x ∧ x < t + k then x + 1 else x) (if t ≤ y ∧ y < t + k then y + 1 else y)) ∧ mks s.2.2 (fun x => P (if t ≤ x ∧ x < t + k then x + 1 else x)) (fun x => Q (if t ≤ x ∧ x < t + k then x + 1 else x))) (by omega) ⟨rfl, ba_mk (fun x y hx hy => by dsimp only; rw [ba_get hb hx hy, if_neg (show ¬ (t ≤ x ∧ x < t + 0) by omega), if_neg (show ¬ (t ≤ y ∧ y < t + 0) by omega)]), fun x hx => by dsimp only; rw [hm x hx, if_neg (show ¬ (t ≤ x ∧ x < t + 0) by omega)]⟩ ?_ ?_ ?_
  · intro rc k s hk hI
    obtain ⟨h1, h2, h3⟩ := hI
    obtain ⟨arr1, e1, e2⟩ := moveDown_e (mk := s.2.2) h2 (show t + k < 3 by omega)
    have hz : ∀ z, (if t ≤ sg (t + k) z ∧ sg (t + k) z < t + k then sg (t + k) z + 1 else sg (t + k) z) = (if t ≤ z ∧ z < t + (k + 1) then z + 1 else z) := by
      intro z
      unfold sg
      by_cases g : z = t + k
      · rw [if_pos g, if_neg (show ¬ (t ≤ t + k + 1 ∧ t + k + 1 < t + k) by omega), if_pos (show t ≤ z ∧ z < t + (k + 1) by omega), g]
      · rw [if_neg g]
        by_cases g2 : t ≤ z ∧ z < t + k
        · rw [if_pos g2, if_pos (show t ≤ z ∧ z < t + (k + 1) by omega)]
        · rw [if_neg g2, if_neg (show ¬ (t ≤ z ∧ z < t + (k + 1)) by omega)]
    refine ⟨(nI (t + (k + 1)), arr1, upd s.2.2 (t + k) (s.2.2 (t + k + 1))), ⟨rfl, ba_mk (fun x y hx hy => ?_), fun x hx => ?_⟩, ?_⟩
    · try dsimp only
      rw [ba_get e2 hx hy]
      rw [hz x, hz y]
    · try dsimp only
      by_cases g : x = t + k
      · rw [g, pk_us, h3 (t + k + 1) (by omega)]
        try dsimp only
        rw [if_neg (show ¬ (t ≤ t + k + 1 ∧ t + k + 1 < t + k) by omega), if_pos (show t ≤ t + k ∧ t + k < t + (k + 1) by omega)]
      · rw [pk_un g, h3 x hx]
        try dsimp only
        by_cases g2 : t ≤ x ∧ x < t + k
        · rw [if_pos g2, if_pos (show t ≤ x ∧ x < t + (k + 1) by omega)]
        · rw [if_neg g2, if_neg (show ¬ (t ≤ x ∧ x < t + (k + 1)) by omega)]
    · try dsimp only
      rw [h1, if_neg (nI_nge4 (by omega) (by omega) (show t + k < w - 1 by omega)), e1, Option.bind_some, nI_add]
      rfl
  · intro rc s hI
    try dsimp only
    rw [hI.1, if_pos (nI_ge4 (by omega) (by omega) (show w - 1 ≤ t + (w - 1 - t) by omega))]
  · intro s hI
    obtain ⟨h1, h2, h3⟩ := hI
    obtain ⟨arr1, e1, e2⟩ := emptyWorld_e (mk := s.2.2) h2 (show w - 1 < 4 by omega)
    rw [e1, Option.bind_some]
    have ok2 := okF_dr ok ht
    have hz : ∀ z, z < w - 1 → (if t ≤ z ∧ z < t + (w - 1 - t) then z + 1 else z) = sh t z := by
      intro z hz
      unfold sh
      by_cases g : z < t
      · rw [if_pos g, if_neg (by omega)]
      · rw [if_neg g, if_pos (by omega)]
    have hz2 : ∀ z, w ≤ z → (if t ≤ z ∧ z < t + (w - 1 - t) then z + 1 else z) = z := fun z hz => if_neg (by omega)
    refine ⟨_, _, rfl, ba_mk (fun x y hx hy => ?_), fun x hx => ?_⟩
    · try dsimp only
      rw [ba_get e2 hx hy]
      try dsimp only
      by_cases g : x = w - 1 ∨ y = w - 1
      · rw [if_pos g]
        cases h : dr t R x y
        · rfl
        · have := ok2.2.1 x y h; omega
      · rw [if_neg g]
        by_cases g2 : x < w - 1 ∧ y < w - 1
        · rw [hz x g2.1, hz y g2.2]
          rfl
        · cases h : dr t R x y
          · cases h5 : R (if t ≤ x ∧ x < t + (w - 1 - t) then x + 1 else x) (if t ≤ y ∧ y < t + (w - 1 - t) then y + 1 else y)
            · rfl
            · have h6 := ok.2.1 _ _ h5
              exfalso
              rcases Nat.lt_or_ge x (w - 1) with q | q
              · rw [hz2 y (by omega)] at h6; omega
              · rw [hz2 x (by omega)] at h6; omega
          · have := ok2.2.1 x y h; omega
    · try dsimp only
      by_cases g : x = w - 1
      · rw [g, pk_us]
        have p1 : dq t P (w - 1) = false := by
          cases h : dq t P (w - 1)
          · rfl
          · have := ok2.2.2.1 _ h; omega
        have q1 : dq t Q (w - 1) = false := by
          cases h : dq t Q (w - 1)
          · rfl
          · have := ok2.2.2.2 _ h; omega
        rw [p1, q1]
        rfl
      · rw [pk_un g, h3 x hx]
        try dsimp only
        by_cases g2 : x < w - 1
        · rw [hz x g2]
          rfl
        · rw [hz2 x (by omega)]
          have p1 : ∀ S : Nat → Bool, (∀ a, S a = true → a < w) → S x = false := fun S hS => by
            cases h : S x
            · rfl
            · have := hS _ h; omega
          have p2 : ∀ S : Nat → Bool, (∀ a, S a = true → a < w - 1) → S x = false := fun S hS => by
            cases h : S x
            · rfl
            · have := hS _ h; omega
          rw [p1 P ok.2.2.1, p1 Q ok.2.2.2, p2 _ ok2.2.2.1, p2 _ ok2.2.2.2]
theorem st_take {k1 w1 A p q k2 w2 : Int32} {arr mk : Nat → Int32} (h : RF k1 w1 A p q k2 w2 arr mk) (x : Int32) : ∃ r w1' A' p' q' w2' arr' mk', f_X8_take w1 A p q x = some (r, w1', A', p', q') ∧ f_X9_take w2 arr mk x = some (r, w2', arr', mk') ∧ RF k1 w1' A' p' q' k2 w2' arr' mk' ∧ (w1 = 0 → w1' = 0) := by
  have h0 := h
  obtain ⟨kk, w, R, P, Q, hk, ok, rfl, rfl, rfl, rfl, rfl, rfl, rfl, hb, hm⟩ := h
  have h4 := ok.1
  unfold f_X9_take f_X8_take
  rw [isWorld_e, Option.bind_some]
  rcases idx_e x (w_lt ok.1) with ⟨a, h1, rfl, h2, h3⟩ | ⟨h2, h3⟩
  · simp only [h2, h3, i10, if_false]
    by_cases hw : w = 1
    · subst hw
      exact ⟨_, _, _, _, _, _, _, _, rfl, rfl, h0, fun z => z⟩
    · obtain ⟨arr', mk', e1, e2, e3⟩ := takeOut_e ok h1 hb hm
      rw [if_neg (show ¬ nI w = 1 from nI_ne (w_lt ok.1) (show 1 < 2 ^ 31 by omega) hw), if_neg (show ¬ nI w = 1 from nI_ne (w_lt ok.1) (show 1 < 2 ^ 31 by omega) hw), drop_e ok h1, e1, Option.bind_some, Option.bind_some]
      exact ⟨_, _, _, _, _, _, _, _, rfl, rfl, ⟨kk, w - 1, _, _, _, hk, okF_dr ok h1, rfl, rfl, rfl, rfl, rfl, rfl, rfl, e2, e3⟩, fun z => absurd z (nI_ne0 (by omega) (w_lt ok.1))⟩
  · simp only [h2, h3, i00, if_true]
    exact ⟨_, _, _, _, _, _, _, _, rfl, rfl, h0, fun z => z⟩
