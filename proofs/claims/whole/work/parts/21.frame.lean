/-! the class's frame: arrows as pairs of worlds -/
def eA (R : Nat → Nat → Bool) : Int32 := bI 16 (fun i => R (i / 4) (i % 4))
theorem eA_congr {R S : Nat → Nat → Bool} (h : ∀ a b, a < 4 → b < 4 → R a b = S a b) : eA R = eA S := bI_congr (fun i hi => h _ _ (by omega) (Nat.mod_lt _ (by omega)))
theorem bt_eA (R : Nat → Nat → Bool) {a b : Nat} (ha : a < 4) (hb : b < 4) : bt (eA R) (4 * a + b) = R a b := by
  unfold eA
  rw [bt_bI (by omega), show (4 * a + b) / 4 = a by omega, show (4 * a + b) % 4 = b by omega, decide_eq_true (by omega)]
  rfl
theorem bt_eA_ge (R : Nat → Nat → Bool) {i : Nat} (h : 16 ≤ i) : bt (eA R) i = false := by
  unfold eA
  rw [bt_bI (by omega), decide_eq_false (by omega)]
  rfl
theorem eA_of {x : Int32} {R : Nat → Nat → Bool} (h : ∀ a b, a < 4 → b < 4 → bt x (4 * a + b) = R a b) (h2 : ∀ i, 16 ≤ i → i < 32 → bt x i = false) : x = eA R := bI_of (by omega) (fun i hi => by
  by_cases hc : i < 16
  · have h3 := h (i / 4) (i % 4) (by omega) (by omega)
    rw [show 4 * (i / 4) + i % 4 = i by omega] at h3
    rw [h3, decide_eq_true hc]
    rfl
  · rw [h2 i (by omega) hi, decide_eq_false hc]
    rfl)
theorem eA_inj {R S : Nat → Nat → Bool} (h : eA R = eA S) : ∀ a b, a < 4 → b < 4 → R a b = S a b := fun a b ha hb => by rw [← bt_eA R ha hb, h, bt_eA S ha hb]
theorem eA_0 : eA (fun _ _ => false) = 0 := bI_0 (by omega)
theorem bI4_15 : (15 : Int32) = bI 4 (fun _ => true) := by decide +kernel
theorem has_e (R : Nat → Nat → Bool) {a b : Nat} (ha : a < 4) (hb : b < 4) : f_X2_has (eA R) (nI a) (nI b) = if R a b then 1 else 0 := by
  unfold f_X2_has
  rw [nI_mul4, b_get (by omega), bt_eA R ha hb]
  cases R a b <;> decide
theorem row_e (R : Nat → Nat → Bool) {a : Nat} (ha : a < 4) : f_X2_row (eA R) (nI a) = bI 4 (R a) := by
  unfold f_X2_row
  rw [nI_mul4', bI4_15]
  refine bI_of (by omega) (fun i hi => ?_)
  rw [b_and, b_sshr (4 * a) (by omega) _ hi, bt_bI (by omega)]
  by_cases h : i < 4
  · rw [if_pos (by omega), bt_eA R ha h, decide_eq_true h]
    cases R a i <;> rfl
  · rw [decide_eq_false h]
    simp
theorem rowOf_e (R : Nat → Nat → Bool) {a : Nat} (ha : a < 4) : f_X2_rowOf (eA R) (nI a) = bI 4 (R a) := row_e R ha
theorem bt_pair {a b : Nat} (ha : a < 4) (hb : b < 4) {i : Nat} (hi : i < 32) : bt (f_X2_pair (nI a) (nI b)) i = decide (i = 4 * a + b) := by
  unfold f_X2_pair
  rw [nI_mul4, b_one (by omega) hi]
theorem e_pair (R : Nat → Nat → Bool) {a b : Nat} (ha : a < 4) (hb : b < 4) : eA R ||| f_X2_pair (nI a) (nI b) = eA (fun x y => R x y || (decide (x = a) && decide (y = b))) := by
  refine eA_of (fun x y hx hy => ?_) (fun i h1 h2 => ?_)
  · rw [b_or, bt_eA R hx hy, bt_pair ha hb (by omega)]
    congr 1
    by_cases h : x = a <;> by_cases h' : y = b <;> simp [h, h'] <;> omega
  · rw [b_or, bt_eA_ge R h1, bt_pair ha hb h2, decide_eq_false (by omega)]
    rfl
theorem e_turn (R : Nat → Nat → Bool) {a b : Nat} (ha : a < 4) (hb : b < 4) : f_X2_turn (eA R) (nI a) (nI b) = eA (fun x y => R x y ^^ (decide (x = a) && decide (y = b))) := by
  unfold f_X2_turn
  refine eA_of (fun x y hx hy => ?_) (fun i h1 h2 => ?_)
  · rw [b_xor, bt_eA R hx hy, bt_pair ha hb (by omega)]
    congr 1
    by_cases h : x = a <;> by_cases h' : y = b <;> simp [h, h'] <;> omega
  · rw [b_xor, bt_eA_ge R h1, bt_pair ha hb h2, decide_eq_false (by omega)]
    rfl
theorem e_join (R : Nat → Nat → Bool) (S : Nat → Bool) {a : Nat} (ha : a < 4) : f_X2_join (eA R) (nI a) (bI 4 S) = eA (fun x y => R x y || (decide (x = a) && S y)) := by
  unfold f_X2_join
  rw [nI_mul4']
  refine eA_of (fun x y hx hy => ?_) (fun i h1 h2 => ?_)
  · rw [b_or, bt_eA R hx hy, b_shl (4 * a) (by omega) _ (by omega), bt_bI (by omega)]
    congr 1
    rcases Nat.lt_trichotomy x a with h | h | h
    · rw [decide_eq_false (show ¬ 4 * a ≤ 4 * x + y by omega), decide_eq_false (show ¬ x = a by omega)]
      rfl
    · subst h
      rw [show 4 * x + y - 4 * x = y by omega, decide_eq_true (show 4 * x ≤ 4 * x + y by omega), decide_eq_true hy, decide_eq_true (rfl : x = x)]
      simp
    · rw [decide_eq_false (show ¬ 4 * x + y - 4 * a < 4 by omega), decide_eq_false (show ¬ x = a by omega)]
      simp
  · rw [b_or, bt_eA_ge R h1, b_shl (4 * a) (by omega) _ h2, bt_bI (by omega), decide_eq_false (show ¬ i - 4 * a < 4 by omega)]
    simp
theorem e_one {k : Nat} (hk : k < 4) : (1 : Int32) <<< (nI k &&& 31) = bI 4 (fun y => decide (y = k)) := bI_of (by omega) (fun i hi => by
  rw [b_one (by omega) hi]
  by_cases h : i = k
  · subst h
    simp [hk]
  · simp [h])
/-- what holds of p, q in a world, as the texts have it -/
def mkv (p q : Bool) : Int32 := (if p then 1 else 0) + (if q then 2 else 0)
theorem mkv_inj (p q p' q' : Bool) : mkv p q = mkv p' q' ↔ p = p' ∧ q = q' := by revert p q p' q'; decide +kernel
theorem bit_e {n : Nat} (hn : n ≤ 32) (P : Nat → Bool) {a : Nat} (ha : a < n) (ha2 : a < 31) : f_X8_bit (bI n P) (nI a) = if P a then 1 else 0 := by
  unfold f_X8_bit
  rw [b_get ha2, bt_bI hn, decide_eq_true ha]
  rfl
theorem marks_e (P Q : Nat → Bool) {a : Nat} (ha : a < 4) : f_X2_marks (bI 4 P) (bI 4 Q) (nI a) = mkv (P a) (Q a) := by
  unfold f_X2_marks
  rw [bit_e (by omega) P ha (by omega), bit_e (by omega) Q ha (by omega)]
  cases P a <;> cases Q a <;> decide
theorem e_below : ∀ a, a < 4 → ((1 : Int32) <<< (nI a &&& 31)) - 1 = bI 4 (fun i => decide (i < a)) := by decide +kernel
theorem b_not (x : Int32) {i : Nat} (hi : i < 32) : bt (x ^^^ (-1)) i = !bt x i := by
  rw [b_xor, b_m1 i hi]
  cases bt x i <;> rfl
theorem bI_andnot {n : Nat} (hn : n ≤ 32) (f g : Nat → Bool) : bI n f &&& (bI n g ^^^ (-1)) = bI n (fun i => f i && !g i) := bI_of hn (fun i hi => by
  rw [b_and, b_not _ hi, bt_bI hn, bt_bI hn]
  cases decide (i < n) <;> simp)
theorem e_without (S : Nat → Bool) {a : Nat} (ha : a < 4) : f_X2_without (bI 4 S) (nI a) = bI 4 (fun i => if i < a then S i else decide (i < 3) && S (i + 1)) := by
  unfold f_X2_without
  rw [e_below a ha]
  refine bI_of (by omega) (fun i hi => ?_)
  rw [b_or, b_and, b_and, b_not _ hi, bt_bI (by omega), bt_bI (by omega), show (1 : Int32) &&& 31 = nI 1 &&& 31 from rfl, b_sshr 1 (by omega) _ hi]
  by_cases h : i < a
  · rw [if_pos h, decide_eq_true h, decide_eq_true (show i < 4 by omega)]
    simp
  · rw [if_neg h, decide_eq_false h]
    by_cases h3 : i < 3
    · rw [if_pos (by omega), bt_bI (by omega), decide_eq_true h3, decide_eq_true (show 1 + i < 4 by omega), decide_eq_true (show i < 4 by omega), Nat.add_comm 1 i]
      simp
    · rw [decide_eq_false h3]
      by_cases h4 : 1 + i < 32
      · rw [if_pos h4, bt_bI (by omega), decide_eq_false (show ¬ 1 + i < 4 by omega)]
        simp
      · rw [if_neg h4, bt_bI (by omega)]
        simp
theorem e_setMark (P : Nat → Bool) {a : Nat} (ha : a < 4) (v : Bool) : (bI 4 P &&& (((1 : Int32) <<< (nI a &&& 31)) ^^^ (-1))) ||| ((if v then (1 : Int32) else 0) <<< (nI a &&& 31)) = bI 4 (fun i => if i = a then v else P i) := by
  rw [e_one ha, bI_andnot (by omega)]
  have h : (if v then (1 : Int32) else 0) <<< (nI a &&& 31) = bI 4 (fun i => decide (i = a) && v) := by
    cases v
    · rw [if_neg (by decide)]
      refine bI_of (by omega) (fun i hi => ?_)
      rw [b_shl a (by omega) 0 hi, b_0]
      simp
    · rw [if_pos rfl, e_one ha]
      exact bI_congr (fun i _ => by simp)
  rw [h, bI_or (by omega)]
  refine bI_congr (fun i hi => ?_)
  by_cases h : i = a <;> simp [h]
/-! loops over worlds -/
theorem nI_ge4 {a b : Nat} (ha : a < 2 ^ 31) (hb : b < 2 ^ 31) (h : a ≤ b) : nI a ≤ nI b := (nI_leI ha hb).mpr h
theorem nI_nge4 {a b : Nat} (ha : a < 2 ^ 31) (hb : b < 2 ^ 31) (h : b < a) : ¬ nI a ≤ nI b := fun q => by have := (nI_leI ha hb).mp q; omega
/-- pairs of worlds put into a set one after another: those up to (k, m), that have S -/
def upto (w : Nat) (S : Nat → Nat → Bool) (k m : Nat) : Nat → Nat → Bool := fun x y => decide (y < w) && (decide (x < k) || decide (x = k) && decide (y < m)) && S x y
theorem upto_row (w : Nat) (S : Nat → Nat → Bool) (k : Nat) : eA (upto w S k w) = eA (upto w S (k + 1) 0) := eA_congr (fun x y hx hy => by
  unfold upto
  by_cases h : y < w
  · have : (decide (x < k) || decide (x = k) && decide (y < w)) = (decide (x < k + 1) || decide (x = k + 1) && decide (y < 0)) := by
      rw [decide_eq_true h, decide_eq_false (Nat.not_lt_zero y)]
      by_cases h1 : x < k
      · simp [h1, Nat.lt_succ_of_lt h1]
      · by_cases h2 : x = k
        · simp [h2]
        · simp [h1, h2, show ¬ x < k + 1 by omega]
    rw [this]
  · simp [h])
theorem upto_put {w : Nat} {S : Nat → Nat → Bool} {k m : Nat} (hk : k < 4) (hm : m < w) (hw : w ≤ 4) (h : S k m = true) : eA (upto w S k m) ||| f_X2_pair (nI k) (nI m) = eA (upto w S k (m + 1)) := by
  rw [e_pair _ hk (by omega)]
  refine eA_congr (fun x y hx hy => ?_)
  unfold upto
  by_cases h1 : x = k
  · subst h1
    by_cases h2 : y = m
    · subst h2
      simp [hm, h]
    · by_cases h3 : y < m
      · simp [h2, h3, Nat.lt_succ_of_lt h3]
      · simp [h2, h3, show ¬ y < m + 1 by omega]
  · simp [h1]
theorem upto_not {w : Nat} {S : Nat → Nat → Bool} {k m : Nat} (h : S k m = false) : eA (upto w S k m) = eA (upto w S k (m + 1)) := eA_congr (fun x y hx hy => by
  unfold upto
  by_cases h1 : x = k
  · subst h1
    by_cases h2 : y = m
    · subst h2
      simp [h]
    · by_cases h3 : y < m
      · simp [h3, Nat.lt_succ_of_lt h3]
      · simp [h3, show ¬ y < m + 1 by omega]
  · simp [h1])
theorem upto_0 (w : Nat) (S : Nat → Nat → Bool) : eA (upto w S 0 0) = 0 := by
  rw [← eA_0]
  exact eA_congr (fun x y hx hy => by simp [upto])
/-- what is left of it in the end -/
def onw (w : Nat) (S : Nat → Nat → Bool) : Nat → Nat → Bool := fun x y => decide (x < w) && decide (y < w) && S x y
theorem upto_end (w : Nat) (S : Nat → Nat → Bool) : eA (upto w S w 0) = eA (onw w S) := eA_congr (fun x y hx hy => by
  unfold upto onw
  by_cases h : x < w <;> by_cases h2 : y < w <;> simp [h, h2])
theorem sameMarks_e (w : Nat) (hw : w ≤ 4) (P Q : Nat → Bool) : f_X2_sameMarks (nI w) (bI 4 P) (bI 4 Q) = some (eA (onw w (fun a b => P a == P b && Q a == Q b))) := by
  unfold f_X2_sameMarks
  have S0 : (0 : Int32) = eA (upto w (fun a b => P a == P b && Q a == Q b) 0 0) := (upto_0 w _).symm
  rw [show ((0 : Int32), (0 : Int32)) = (fun k => (eA (upto w (fun a b => P a == P b && Q a == Q b) k 0), nI k)) 0 by simp only [← S0]; rfl]
  rw [k_for w (fun k => (eA (upto w (fun a b => P a == P b && Q a == Q b) k 0), nI k)) ?_ ?_ (by omega)]
  · rw [upto_end]
  · intro rc k hk
    dsimp only
    rw [if_neg (nI_nge4 (by omega) (by omega) hk)]
    rw [show (eA (upto w (fun a b => P a == P b && Q a == Q b) k 0), (0 : Int32)) = (fun m => (eA (upto w (fun a b => P a == P b && Q a == Q b) k m), nI m)) 0 from rfl]
    rw [k_for w (fun m => (eA (upto w (fun a b => P a == P b && Q a == Q b) k m), nI m)) ?_ ?_ (by omega)]
    · rw [nI_1, upto_row]
    · intro rc2 m hm
      dsimp only
      rw [if_neg (nI_nge4 (by omega) (by omega) hm), marks_e P Q (by omega), marks_e P Q (by omega), nI_1]
      by_cases h : P k = P m ∧ Q k = Q m
      · rw [if_pos ((mkv_inj _ _ _ _).mpr h), upto_put (by omega) hm hw (by simp [h.1, h.2])]
      · rw [if_neg (fun q => h ((mkv_inj _ _ _ _).mp q)), upto_not]
        by_cases h1 : P k = P m
        · have h2 : ¬ Q k = Q m := fun q => h ⟨h1, q⟩
          simp [h1, h2]
        · simp [h1]
    · intro rc2
      dsimp only
      rw [if_pos (nI_ge4 (by omega) (by omega) (Nat.le_refl w))]
  · intro rc
    dsimp only
    rw [if_pos (nI_ge4 (by omega) (by omega) (Nat.le_refl w))]
