/-! the reference's frame -/
theorem chk_e {β : Type} {k n : Nat} (h : k < n) (hn : n < 2 ^ 31) (e : Option β) : k_chk (nI k) n e = e := by
  unfold k_chk
  rw [if_neg (nI_in h hn)]
theorem cl_e {k : Nat} (h : k < 2 ^ 31) : Int32.toNatClampNeg (nI k) = k := nI_clamp h
/-- a world's, a part's number: there is one, or not, for both -/
theorem idx_e (x : Int32) {n : Nat} (hn : n < 2 ^ 31) : (∃ k, k < n ∧ x = nI k ∧ f_X8_isBelow x (nI n) = 1 ∧ f_X9_within x 0 (nI n - 1) = 1) ∨ (f_X8_isBelow x (nI n) = 0 ∧ f_X9_within x 0 (nI n - 1) = 0) := by
  unfold f_X8_isBelow f_X9_within
  rcases pk_ix x hn with h | h | ⟨j, h1, h2⟩
  · rw [if_pos h, if_pos h]
    exact Or.inr ⟨rfl, rfl⟩
  · refine Or.inr ⟨?_, ?_⟩
    · by_cases h0 : x < 0
      · rw [if_pos h0]
      · rw [if_neg h0, if_pos h]
    · by_cases h0 : x < 0
      · rw [if_pos h0]
      · rw [if_neg h0, if_pos]
        have h3 : ¬ x < 0 := h0
        rcases Nat.eq_zero_or_pos n with h4 | h4
        · subst h4
          obtain ⟨j, hj, rfl⟩ := nI_of h0
          rw [Int32.lt_iff_toInt_lt, nI_toInt hj]
          show (-1 : Int) < _
          omega
        · obtain ⟨j, hj, rfl⟩ := nI_of h0
          rw [show (1 : Int32) = nI 1 from rfl, pk_sub h4, nI_ltI (by omega) hj]
          have := (nI_leI hn hj).mp h
          omega
  · refine Or.inl ⟨j, h1, h2, ?_, ?_⟩
    · rw [h2, if_neg (nI_pos (by omega)), if_neg (nI_nge4 hn (by omega) h1)]
    · rw [h2, if_neg (nI_pos (by omega)), if_neg]
      rw [show (1 : Int32) = nI 1 from rfl, pk_sub (by omega), nI_ltI (by omega) (by omega)]
      omega
theorem isWorld_e (x : Int32) (w : Int32) : f_X9_isWorld w x = some (f_X9_within x 0 (w - 1)) := by
  unfold f_X9_isWorld f_X9_within
  split
  · rfl
  · split <;> rfl
def ba (f : Nat → Int32) (R : Nat → Nat → Bool) : Prop := ∀ a b, a < 4 → b < 4 → f (4 * a + b) = if R a b then 1 else 0
theorem ba_k {f : Nat → Int32} {R : Nat → Nat → Bool} (h : ba f R) {k : Nat} (hk : k < 16) : f k = if R (k / 4) (k % 4) then 1 else 0 := by
  have := h (k / 4) (k % 4) (by omega) (by omega)
  rwa [show 4 * (k / 4) + k % 4 = k by omega] at this
theorem b01 (b : Bool) : ((if b then (1 : Int32) else 0) = 0) ↔ b = false := by cases b <;> decide
theorem allArrows_e {f : Nat → Int32} {R : Nat → Nat → Bool} (h : ba f R) : f_X9_allArrows f = some (nI (fb_ct (fun k => R (k / 4) (k % 4)) 16)) := by
  unfold f_X9_allArrows
  rw [show ((0 : Int32), (0 : Int32)) = (fun k => (nI (fb_ct (fun k => R (k / 4) (k % 4)) k), nI k)) 0 from rfl]
  rw [k_for 16 (fun k => (nI (fb_ct (fun k => R (k / 4) (k % 4)) k), nI k)) ?_ ?_ (by omega)]
  · intro rc k hk
    dsimp only
    rw [if_neg (show ¬ (16 : Int32) ≤ nI k from nI_nge4 (show 16 < 2 ^ 31 by omega) (show k < 2 ^ 31 by omega) hk), chk_e hk (by omega), cl_e (by omega), ba_k h hk, fb_ct_succ, nI_1]
    cases R (k / 4) (k % 4)
    · rw [if_pos (by decide)]
      rw [show (0 : Int32) = nI 0 from rfl, nI_add]
      rfl
    · rw [if_neg (by decide), nI_1]
      rfl
  · intro rc
    dsimp only
    rw [if_pos (show (16 : Int32) ≤ nI 16 from nI_ge4 (show 16 < 2 ^ 31 by omega) (show 16 < 2 ^ 31 by omega) (Nat.le_refl 16))]
theorem arrowNow_e {f : Nat → Int32} {R : Nat → Nat → Bool} (h : ba f R) {a b : Nat} (ha : a < 4) (hb : b < 4) : f_X9_arrowNow f (nI a) (nI b) = some (if R a b then 1 else 0) := by
  unfold f_X9_arrowNow
  rw [nI_mul4, chk_e (by omega) (by omega), cl_e (by omega), h a b ha hb]
  cases R a b <;> rfl
theorem goOut_e {f : Nat → Int32} {R : Nat → Nat → Bool} (h : ba f R) {w a : Nat} (hw : w ≤ 4) (ha : a < 4) : f_X9_goOut (nI w) f (nI a) = some (nI (fb_ct (R a) w)) := by
  unfold f_X9_goOut
  rw [show ((0 : Int32), (0 : Int32)) = (fun k => (nI (fb_ct (R a) k), nI k)) 0 from rfl]
  rw [k_for w (fun k => (nI (fb_ct (R a) k), nI k)) ?_ ?_ (by omega)]
  · intro rc k hk
    dsimp only
    rw [if_neg (nI_nge4 (by omega) (by omega) hk), nI_mul4, chk_e (by omega) (by omega), cl_e (by omega), h a k ha (by omega), fb_ct_succ, nI_1]
    cases R a k
    · rw [if_pos (by decide), show (0 : Int32) = nI 0 from rfl, nI_add]
      rfl
    · rw [if_neg (by decide), nI_1]
      rfl
  · intro rc
    dsimp only
    rw [if_pos (nI_ge4 (by omega) (by omega) (Nat.le_refl w))]
theorem comeIn_e {f : Nat → Int32} {R : Nat → Nat → Bool} (h : ba f R) {w a : Nat} (hw : w ≤ 4) (ha : a < 4) : f_X9_comeIn (nI w) f (nI a) = some (nI (fb_ct (fun b => R b a) w)) := by
  unfold f_X9_comeIn
  rw [show ((0 : Int32), (0 : Int32)) = (fun k => (nI (fb_ct (fun b => R b a) k), nI k)) 0 from rfl]
  rw [k_for w (fun k => (nI (fb_ct (fun b => R b a) k), nI k)) ?_ ?_ (by omega)]
  · intro rc k hk
    dsimp only
    rw [if_neg (nI_nge4 (by omega) (by omega) hk), nI_mul4, chk_e (by omega) (by omega), cl_e (by omega), h k a (by omega) ha, fb_ct_succ, nI_1]
    cases R k a
    · rw [if_pos (by decide), show (0 : Int32) = nI 0 from rfl, nI_add]
      rfl
    · rw [if_neg (by decide), nI_1]
      rfl
  · intro rc
    dsimp only
    rw [if_pos (nI_ge4 (by omega) (by omega) (Nat.le_refl w))]
theorem arrowsTo_e (R : Nat → Nat → Bool) {w a : Nat} (hw : w ≤ 4) (ha : a < 4) : f_X2_arrowsTo (nI w) (eA R) (nI a) = some (nI (fb_ct (fun b => R b a) w)) := by
  unfold f_X2_arrowsTo
  rw [show ((0 : Int32), (0 : Int32)) = (fun k => (nI (fb_ct (fun b => R b a) k), nI k)) 0 from rfl]
  rw [k_for w (fun k => (nI (fb_ct (fun b => R b a) k), nI k)) ?_ ?_ (by omega)]
  · intro rc k hk
    dsimp only
    rw [if_neg (nI_nge4 (by omega) (by omega) hk), row_e R (by omega), bit_e (by omega) (R k) ha (by omega), fb_ct_succ, nI_1]
    cases R k a
    · rw [if_neg (by decide), if_neg (by decide), show (0 : Int32) = nI 0 from rfl, nI_add]
    · rw [if_pos rfl, if_pos rfl, nI_1]
  · intro rc
    dsimp only
    rw [if_pos (nI_ge4 (by omega) (by omega) (Nat.le_refl w))]
/-- a row of arrows as the reference lays it -/
def rows_ (w : Nat) (R : Nat → Nat → Bool) (to : Nat → Int32) : Nat → Int32 := fun a => if a < w then bI 4 (R a) else to a
theorem fun_upd {α : Type} {f g : Nat → α} (h : ∀ j, f j = g j) : f = g := funext h
theorem isIn_e {n : Nat} (hn : n ≤ 32) (f : Nat → Bool) {a : Nat} (ha : a < n) (ha2 : a < 31) : f_X9_isIn (bI n f) (nI a) = if f a then 1 else 0 := by
  unfold f_X9_isIn
  rw [b_get ha2, bt_bI hn, decide_eq_true ha]
  cases f a <;> decide
/-- what the reference looks at: w worlds, their arrows -/
def lk (w : Nat) (R : Nat → Nat → Bool) (to : Nat → Int32) : Prop := ∀ a, a < w → to a = bI 4 (R a)
theorem isArrow_e {w : Nat} {R : Nat → Nat → Bool} {to : Nat → Int32} (h : lk w R to) (hw : w ≤ 4) {a b : Nat} (ha : a < w) (hb : b < 4) : f_X9_isArrow to (nI a) (nI b) = some (if R a b then 1 else 0) := by
  unfold f_X9_isArrow
  rw [chk_e (by omega) (by omega), cl_e (by omega), h a ha, isIn_e (by omega) _ hb (by omega), bl_b]
theorem keepsHere_e {law w : Nat} (hl : law < 5) {R : Nat → Nat → Bool} {to : Nat → Int32} (h : lk w R to) (hw : w ≤ 4) {a b c : Nat} (ha : a < w) (hb : b < w) (hc : c < w) : f_X9_keepsHere to (nI law) (nI a) (nI b) (nI c) = some (if obh law R a b c then 1 else 0) := by
  unfold f_X9_keepsHere obh
  rw [isArrow_e h hw ha (show a < 4 by omega), isArrow_e h hw ha (show b < 4 by omega), isArrow_e h hw ha (show c < 4 by omega), isArrow_e h hw hb (show c < 4 by omega), isArrow_e h hw hb (show a < 4 by omega), chk_e (show a < 4 by omega) (by omega), cl_e (show a < 2 ^ 31 by omega), h a ha]
  rcases (show law = 0 ∨ law = 1 ∨ law = 2 ∨ law = 3 ∨ law = 4 by omega) with rfl | rfl | rfl | rfl | rfl
  · show k_bl _ _ = _
    rw [bl_b]
    rfl
  · cases R a b <;> cases R b c <;> cases R a c <;> rfl
  · cases R a b <;> cases R b a <;> rfl
  · show (if bI 4 (R a) = 0 then some 0 else some 1) = some (if (List.range 4).any (R a) then 1 else 0)
    cases hy : (List.range 4).any (R a)
    · rw [if_pos ((bI4_0 _).mpr hy)]
      rfl
    · rw [if_neg (fun q => by rw [(bI4_0 _).mp q] at hy; cases hy)]
      rfl
  · cases R a b <;> cases R a c <;> cases R b c <;> rfl
theorem nz_e {β : Type} {n : Nat} (h0 : 0 < n) (hn : n < 2 ^ 31) (e : Option β) : k_nz (nI n) e = e := by
  unfold k_nz
  rw [if_neg (nI_ne0 h0 hn)]
theorem keepsNow_e {law w : Nat} (hl : law < 5) {R : Nat → Nat → Bool} {to : Nat → Int32} (h : lk w R to) (hw : w ≤ 4) : f_X9_keepsNow (nI w) to (nI law) = some (if obs law w R then 1 else 0) := by
  have hall : (List.range (w * w * w)).all (fun k => obh law R (k / w / w) (k / w % w) (k % w)) = obs law w R := by
    have key : (List.range (w * w * w)).all (fun k => obh law R (k / w / w) (k / w % w) (k % w)) = true ↔ obs law w R = true := by
      rw [obs_iff, List.all_eq_true]
      constructor
      · intro h1 a b c ha hb hc
        have h2 := h1 ((a * w + b) * w + c) (List.mem_range.mpr (by
          have g1 : a * w + b + 1 ≤ w * w := by
            have : (a + 1) * w ≤ w * w := Nat.mul_le_mul_right w ha
            rw [Nat.add_mul] at this
            omega
          have g2 : (a * w + b + 1) * w ≤ w * w * w := Nat.mul_le_mul_right w g1
          rw [Nat.add_mul] at g2
          omega))
        have hw0 : 0 < w := by omega
        have e1 : ((a * w + b) * w + c) / w = a * w + b := by rw [Nat.mul_comm, Nat.mul_add_div hw0, Nat.div_eq_of_lt hc, Nat.add_zero]
        have e2 : ((a * w + b) * w + c) % w = c := by rw [Nat.mul_comm, Nat.mul_add_mod, Nat.mod_eq_of_lt hc]
        have e3 : (a * w + b) / w = a := by rw [Nat.mul_comm, Nat.mul_add_div hw0, Nat.div_eq_of_lt hb, Nat.add_zero]
        have e4 : (a * w + b) % w = b := by rw [Nat.mul_comm, Nat.mul_add_mod, Nat.mod_eq_of_lt hb]
        rw [e1, e2, e3, e4] at h2
        exact h2
      · intro h1 k hk
        have hk := List.mem_range.mp hk
        have hw0 : 0 < w := by
          rcases Nat.eq_zero_or_pos w with q | q
          · subst q; simp at hk
          · exact q
        exact h1 _ _ _ (by
          rw [Nat.div_div_eq_div_mul]
          exact (Nat.div_lt_iff_lt_mul (Nat.mul_pos hw0 hw0)).mpr (by rw [← Nat.mul_assoc]; exact hk)) (Nat.mod_lt _ hw0) (Nat.mod_lt _ hw0)
    cases h1 : (List.range (w * w * w)).all (fun k => obh law R (k / w / w) (k / w % w) (k % w)) <;> cases h2 : obs law w R <;> simp_all
  rw [← hall]
  have hn : w * w * w ≤ 64 := Nat.mul_le_mul (Nat.mul_le_mul hw hw) hw
  unfold f_X9_keepsNow
  rw [pk_mul, pk_mul]
  generalize hp : (fun k => obh law R (k / w / w) (k / w % w) (k % w)) = p
  rw [show ((1 : Int32), (0 : Int32)) = (fun k => ((if (List.range k).all p then 1 else 0 : Int32), nI k)) 0 from rfl]
  rw [k_for (w * w * w) (fun k => ((if (List.range k).all p then 1 else 0 : Int32), nI k)) ?_ ?_ (by omega)]
  · show k_bl _ _ = _
    rw [bl_b]
  · intro rc k hk
    have hw0 : 0 < w := by
      rcases Nat.eq_zero_or_pos w with q | q
      · subst q; simp at hk
      · exact q
    dsimp only
    rw [if_neg (nI_nge4 (by omega) (by omega) hk)]
    have hs : (List.range (k + 1)).all p = ((List.range k).all p && p k) := by rw [List.range_succ, List.all_append]; simp
    cases ha : (List.range k).all p
    · rw [hs, ha, if_pos (by decide), nI_1]
      rfl
    · rw [hs, ha, if_neg (by decide)]
      simp only [nz_e hw0 (show w < 2 ^ 31 by omega)]
      have hd : k / w < 2 ^ 31 := Nat.lt_of_le_of_lt (Nat.div_le_self _ _) (by omega)
      rw [pk_div (show k < 2 ^ 31 by omega) hw0 (by omega), pk_div hd hw0 (by omega), pk_mul, pk_mul, pk_sub (Nat.div_mul_le_self _ _), pk_sub (Nat.div_mul_le_self _ _)]
      rw [show k / w - k / w / w * w = k / w % w by rw [Nat.mul_comm]; have := Nat.div_add_mod (k / w) w; omega, show k - k / w * w = k % w by rw [Nat.mul_comm]; have := Nat.div_add_mod k w; omega]
      have hkw : k / w / w < w := by
        rw [Nat.div_div_eq_div_mul]
        exact (Nat.div_lt_iff_lt_mul (Nat.mul_pos hw0 hw0)).mpr (by rw [← Nat.mul_assoc]; exact hk)
      rw [keepsHere_e hl h hw hkw (Nat.mod_lt _ hw0) (Nat.mod_lt _ hw0), nI_1]
      have hpk : p k = obh law R (k / w / w) (k / w % w) (k % w) := by rw [← hp]
      rw [← hpk]
      cases p k <;> rfl
  · intro rc
    dsimp only
    rw [if_pos (nI_ge4 (by omega) (by omega) (Nat.le_refl _))]
theorem fitsNow_e {kind w : Nat} (hk : kind < 5) {R : Nat → Nat → Bool} {to : Nat → Int32} (h : lk w R to) (hw : w ≤ 4) : f_X9_fitsNow (nI w) to (nI kind) = some (if ftk kind w R then 1 else 0) := by
  unfold f_X9_fitsNow ftk
  rw [show f_X9_keepsNow (nI w) to 0 = _ from keepsNow_e (law := 0) (by omega) h hw, show f_X9_keepsNow (nI w) to 1 = _ from keepsNow_e (law := 1) (by omega) h hw, show f_X9_keepsNow (nI w) to 2 = _ from keepsNow_e (law := 2) (by omega) h hw, show f_X9_keepsNow (nI w) to 3 = _ from keepsNow_e (law := 3) (by omega) h hw]
  rcases (show kind = 0 ∨ kind = 1 ∨ kind = 2 ∨ kind = 3 ∨ kind = 4 by omega) with rfl | rfl | rfl | rfl | rfl
  · rfl
  · show k_bl _ _ = _
    rw [bl_b]
    rfl
  · cases obs 0 w R <;> cases obs 1 w R <;> rfl
  · show k_bl _ _ = _
    rw [bl_b]
    rfl
  · show k_bl _ _ = _
    rw [bl_b]
    rfl
theorem acc_bit (P : Nat → Bool) {k : Nat} (hk : k < 4) : bI 4 (fun i => decide (i < k) && P i) ||| ((if P k then (1 : Int32) else 0) <<< (nI k &&& 31)) = bI 4 (fun i => decide (i < k + 1) && P i) := by
  have h : (if P k then (1 : Int32) else 0) <<< (nI k &&& 31) = bI 4 (fun i => decide (i = k) && P k) := by
    cases P k
    · rw [if_neg (by decide)]
      refine bI_of (by omega) (fun i hi => ?_)
      rw [b_shl k (by omega) 0 hi, b_0]
      simp
    · rw [if_pos rfl, e_one hk]
      exact bI_congr (fun i _ => by simp)
  rw [h, bI_or (by omega)]
  refine bI_congr (fun i hi => ?_)
  by_cases h1 : i < k
  · simp [h1, Nat.lt_succ_of_lt h1, show i ≠ k by omega]
  · by_cases h2 : i = k
    · subst h2
      simp
    · simp [h1, h2, show ¬ i < k + 1 by omega]
theorem mkv_1 (p q : Bool) : mkv p q &&& 1 = if p then 1 else 0 := by cases p <;> cases q <;> decide
theorem mkv_2 (p q : Bool) : mkv p q >>> ((1 : Int32) &&& 31) = if q then 1 else 0 := by cases p <;> cases q <;> decide
/-- the rows while row k is laid: so far as m -/
def rk (k m : Nat) (R : Nat → Nat → Bool) (to : Nat → Int32) : Nat → Int32 := fun a => if a = k then bI 4 (fun y => decide (y < m) && R k y) else rows_ k R to a
theorem rk_0 (k : Nat) (R : Nat → Nat → Bool) (to : Nat → Int32) : upd (rows_ k R to) k 0 = rk k 0 R to := by
  funext a
  unfold rk
  by_cases h : a = k
  · subst h
    rw [pk_us, if_pos rfl]
    exact ((bI_eq0 (by omega) _).mpr (fun i _ => by simp)).symm
  · rw [pk_un h, if_neg h]
theorem rk_s {k m : Nat} (hm : m < 4) (R : Nat → Nat → Bool) (to : Nat → Int32) : upd (rk k m R to) k (rk k m R to k ||| ((if R k m then (1 : Int32) else 0) <<< (nI m &&& 31))) = rk k (m + 1) R to := by
  funext a
  by_cases h : a = k
  · subst h
    rw [pk_us]
    unfold rk
    rw [if_pos rfl, if_pos rfl, acc_bit (R a) hm]
  · rw [pk_un h]
    unfold rk
    rw [if_neg h, if_neg h]
theorem rk_w {k w : Nat} {R : Nat → Nat → Bool} (hR : ∀ a b, R a b = true → a < w ∧ b < w) (to : Nat → Int32) : rk k w R to = rows_ (k + 1) R to := by
  funext a
  unfold rk rows_
  by_cases h : a = k
  · subst h
    rw [if_pos rfl, if_pos (by omega)]
    refine bI_congr (fun i _ => ?_)
    cases h1 : R a i
    · simp
    · simp [(hR _ _ h1).2]
  · rw [if_neg h]
    by_cases h2 : a < k
    · rw [if_pos h2, if_pos (by omega)]
    · rw [if_neg h2, if_neg (by omega)]
def mks (g : Nat → Int32) (P Q : Nat → Bool) : Prop := ∀ a, a < 4 → g a = mkv (P a) (Q a)
theorem layFrame_e {w : Nat} (hw : w ≤ 4) {R : Nat → Nat → Bool} {P Q : Nat → Bool} (hR : ∀ a b, R a b = true → a < w ∧ b < w) (hP : ∀ a, P a = true → a < w) (hQ : ∀ a, Q a = true → a < w) {f g : Nat → Int32} (hf : ba f R) (hg : mks g P Q) (m p q : Int32) (to : Nat → Int32) : f_X9_layFrame (nI w) m p q f g to = some (nI w, bI 4 P, bI 4 Q, rows_ w R to) := by
  unfold f_X9_layFrame
  have hS : ∀ S : Nat → Bool, (0 : Int32) = bI 4 (fun i => decide (i < 0) && S i) := fun S => ((bI_eq0 (by omega) _).mpr (fun i _ => by simp)).symm
  have h0 : ((0 : Int32), (0 : Int32), (0 : Int32), to) = (fun k => (nI k, bI 4 (fun i => decide (i < k) && P i), bI 4 (fun i => decide (i < k) && Q i), rows_ k R to)) 0 := by
    simp only [← hS P, ← hS Q]
    rfl
  rw [h0]
  rw [k_for w (fun k => (nI k, bI 4 (fun i => decide (i < k) && P i), bI 4 (fun i => decide (i < k) && Q i), rows_ k R to)) ?_ ?_ (by omega)]
  · show some (nI w, bI 4 (fun i => decide (i < w) && P i), bI 4 (fun i => decide (i < w) && Q i), rows_ w R to) = _
    have e : ∀ S : Nat → Bool, (∀ a, S a = true → a < w) → bI 4 (fun i => decide (i < w) && S i) = bI 4 S := fun S hS => bI_congr (fun i _ => by
      cases h1 : S i
      · simp
      · simp [hS i h1])
    rw [e P hP, e Q hQ]
  · intro rc k hk
    dsimp only
    rw [if_neg (nI_nge4 (by omega) (by omega) hk), chk_e (show k < 4 by omega) (by omega), cl_e (show k < 2 ^ 31 by omega), rk_0]
    rw [show ((0 : Int32), rk k 0 R to) = (fun m => (nI m, rk k m R to)) 0 from rfl]
    rw [k_for w (fun m => (nI m, rk k m R to)) ?_ ?_ (by omega)]
    · dsimp only
      simp only [k_let]
      rw [chk_e (show k < 4 by omega) (by omega), chk_e (show k < 4 by omega) (by omega), hg k (by omega), mkv_1, mkv_2, rk_w hR, nI_1]
      rw [acc_bit P (by omega), acc_bit Q (by omega)]
    · intro rc2 m hm
      dsimp only
      rw [if_neg (nI_nge4 (by omega) (by omega) hm), chk_e (show k < 4 by omega) (by omega), nI_mul4, chk_e (show 4 * k + m < 16 by omega) (by omega), cl_e (show 4 * k + m < 2 ^ 31 by omega), hf k m (by omega) (by omega), chk_e (show k < 4 by omega) (by omega), chk_e (show k < 4 by omega) (by omega), nI_1, ← rk_s (show m < 4 by omega)]
      cases R k m
      · rw [if_pos (by decide), if_neg (by decide)]
        rw [show (0 : Int32) <<< (nI m &&& 31) = 0 from b_ext (fun i hi => by rw [b_shl m (by omega) 0 hi, b_0]; simp [b_0])]
      · rw [if_neg (by decide), if_pos rfl]
    · intro rc2
      dsimp only
      rw [if_pos (nI_ge4 (by omega) (by omega) (Nat.le_refl w))]
  · intro rc
    dsimp only
    rw [if_pos (nI_ge4 (by omega) (by omega) (Nat.le_refl w))]
theorem rows_lk (w : Nat) (R : Nat → Nat → Bool) (to : Nat → Int32) : lk w R (rows_ w R to) := fun a ha => if_pos ha
