/-! fail and tells, both ways -/
theorem bL_lN (n l : Nat) : bL (lN n) l = (decide (l < 64) && n.testBit l) := by
  show (BitVec.ofNat 64 n).getLsbD l = _
  rw [BitVec.getLsbD_ofNat]
theorem lowest64_e {x : Int64} {t : Nat} (ht : t < 64) (h1 : bL x t = true) (h2 : ∀ j, j < t → bL x j = false) : f_X8_lowest x = nI t := by
  unfold f_X8_lowest
  have e : x &&& (-x) = lN (2 ^ t) := c_ext (fun l hl => by
    rw [c_and, bL_lN, decide_eq_true hl, Bool.true_and, Nat.testBit_two_pow]
    have hn : bL (-x) l = (bL x l ^^ (decide (l < 64) && decide (∃ j < l, bL x j = true))) := by
      show (-x).toBitVec.getLsbD l = _
      rw [Int64.toBitVec_neg, BitVec.getLsbD_neg]
      rfl
    rw [hn, decide_eq_true hl, Bool.true_and]
    rcases Nat.lt_trichotomy l t with q | q | q
    · rw [h2 l q, decide_eq_false (show ¬ t = l by omega)]
      rfl
    · subst q
      rw [h1, decide_eq_true rfl, decide_eq_false (show ¬ (∃ j < l, bL x j = true) from fun ⟨j, hj, hb⟩ => by rw [h2 j hj] at hb; cases hb)]
      rfl
    · rw [decide_eq_true (show ∃ j < l, bL x j = true from ⟨t, q, h1⟩), decide_eq_false (show ¬ t = l by omega)]
      cases bL x l <;> rfl)
  have h3 : 1 ≤ 2 ^ t := Nat.one_le_two_pow
  rw [e, show (1 : Int64) = lN 1 from rfl, lN_sub h3]
  have e2 : lN (2 ^ t - 1) = lN (bN (fun i => decide (i < t)) 64) := c_ext (fun l hl => by
    rw [bL_lN, bL_lN, Nat.testBit_two_pow_sub_one, bN_tb, decide_eq_true hl]
    rfl)
  rw [e2, bc64_e]
  have h4 := fb_ct_split (fun i => decide (i < t)) t (64 - t)
  rw [show t + (64 - t) = 64 by omega] at h4
  rw [h4, fb_ct_all.mpr (fun k hk => decide_eq_true hk)]
  have h5 : fb_ct (fun k => (fun i => decide (i < t)) (t + k)) (64 - t) = 0 := fb_ct_zero.mpr (fun k _ => decide_eq_false (by omega))
  rw [h5]
  rfl
/-- the frame of n worlds by its number -/
def gr (n x : Nat) : Nat → Nat → Bool := fun a b => decide (a < n) && (decide (b < n) && x.testBit (n * a + b))
theorem gr_in (n x : Nat) : ∀ a b, gr n x a b = true → a < n ∧ b < n := fun a b h => by
  unfold gr at h
  rw [Bool.and_eq_true, Bool.and_eq_true, decide_eq_true_eq, decide_eq_true_eq] at h
  exact ⟨h.1, h.2.1⟩
theorem grow_k : ∀ n, n < 4 → ∀ k, k < n → ∀ x, x < 512 → ((nI x) >>> ((nI n * nI k) &&& 31)) &&& (((1 : Int32) <<< (nI n &&& 31)) - 1) = bI 4 (fun b => decide (b < n) && x.testBit (n * k + b)) := by decide +kernel
theorem build_e {n x : Nat} (hn : n < 4) (hx : x < 512) (a b c d f : Int32) : f_X2_build a b c d f (nI n) (nI x) = some (0, nI n, eA (gr n x), 0, 0) := by
  unfold f_X2_build
  refine k_runG (N := 1000) (fun (o : Option (Int32 × Int32 × Int32 × Int32 × Int32)) => o = some (0, nI n, eA (gr n x), 0, 0)) n (fun (k : Nat) (s : Int32 × Int32) => s.1 = nI k ∧ s.2 = eA (fun a b => decide (a < k) && gr n x a b)) (by omega) ⟨rfl, ((eA_congr (fun a b _ _ => by simp)).trans eA_0).symm⟩ ?_ ?_ ?_
  · intro rc k s hk hI
    obtain ⟨h1, h2⟩ := hI
    refine ⟨(nI (k + 1), eA (fun a b => decide (a < k + 1) && gr n x a b)), ⟨rfl, rfl⟩, ?_⟩
    try dsimp only
    simp only [k_let]
    rw [h1, h2, if_neg (nI_nge4 (by omega) (by omega) hk), grow_k n hn k hk x hx, e_join _ _ (show k < 4 by omega), nI_1]
    congr 2
    refine eA_congr (fun a b ha hb => ?_)
    by_cases g : a = k
    · subst g
      rw [decide_eq_false (show ¬ a < a by omega), decide_eq_true rfl, decide_eq_true (show a < a + 1 by omega)]
      unfold gr
      rw [decide_eq_true hk]
      rfl
    · by_cases g2 : a < k
      · rw [decide_eq_true g2, decide_eq_false g, decide_eq_true (show a < k + 1 by omega)]
        simp
      · rw [decide_eq_false g2, decide_eq_false g, decide_eq_false (show ¬ a < k + 1 by omega)]
        rfl
  · intro rc s hI
    try dsimp only
    rw [hI.1, if_pos (nI_ge4 (by omega) (by omega) (Nat.le_refl n))]
  · intro s hI
    rw [hI.2]
    have : eA (fun a b => decide (a < n) && gr n x a b) = eA (gr n x) := eA_congr (fun a b _ _ => by
      cases h : gr n x a b
      · simp
      · rw [decide_eq_true (gr_in n x a b h).1]; rfl)
    rw [this]
theorem layNumber_e {n x : Nat} (hn : n < 4) (hx : x < 512) (m : Int32) (to : Nat → Int32) : f_X9_layNumber m to (nI n) (nI x) = some (nI n, rows_ n (gr n x) to) := by
  unfold f_X9_layNumber
  refine k_runG (N := 1000) (fun (o : Option (Int32 × (Nat → Int32))) => o = some (nI n, rows_ n (gr n x) to)) n (fun (k : Nat) (s : Int32 × (Nat → Int32)) => s.1 = nI k ∧ s.2 = rows_ k (gr n x) to) (by omega) ⟨rfl, rfl⟩ ?_ ?_ ?_
  · intro rc k s hk hI
    obtain ⟨h1, h2⟩ := hI
    refine ⟨(nI (k + 1), rows_ (k + 1) (gr n x) to), ⟨rfl, rfl⟩, ?_⟩
    try dsimp only
    rw [h1, h2, if_neg (nI_nge4 (by omega) (by omega) hk), chk_e (show k < 4 by omega) (by omega), cl_e (show k < 2 ^ 31 by omega), grow_k n hn k hk x hx, nI_1]
    congr 2
    refine fun_upd (fun j => ?_)
    by_cases g : j = k
    · rw [g, pk_us]
      unfold rows_
      rw [if_pos (show k < k + 1 by omega)]
      refine bI_congr (fun b _ => ?_)
      unfold gr
      rw [decide_eq_true hk]
      rfl
    · rw [pk_un g]
      unfold rows_
      by_cases g2 : j < k
      · rw [if_pos g2, if_pos (show j < k + 1 by omega)]
      · rw [if_neg g2, if_neg (show ¬ j < k + 1 by omega)]
  · intro rc s hI
    try dsimp only
    rw [hI.1, if_pos (nI_ge4 (by omega) (by omega) (Nat.le_refl n))]
  · intro s hI
    rw [hI.2]
theorem nn_k : ∀ n, n < 4 → (1 : Int32) <<< ((nI n * nI n) &&& 31) = nI (2 ^ (n * n)) ∧ 2 ^ (n * n) ≤ 512 := by decide +kernel
def vall (g : Nat → Int32) (e : Nat → Nat) (R : Nat → Nat → Bool) (w : Nat) : Bool := (List.range (2 ^ (2 * w))).all (val g e R w)
theorem vall_t {g : Nat → Int32} {e : Nat → Nat} {R : Nat → Nat → Bool} {w : Nat} (h : ∀ n, n < 2 ^ (2 * w) → val g e R w n = true) : vall g e R w = true := by
  unfold vall
  rw [List.all_eq_true]
  exact fun n hn => h n (List.mem_range.mp hn)
theorem vall_f {g : Nat → Int32} {e : Nat → Nat} {R : Nat → Nat → Bool} {w : Nat} {n : Nat} (hn : n < 2 ^ (2 * w)) (h : val g e R w n = false) : vall g e R w = false := by
  unfold vall
  cases hc : (List.range (2 ^ (2 * w))).all (val g e R w)
  · rfl
  · rw [List.all_eq_true] at hc
    rw [hc n (List.mem_range.mpr hn)] at h
    cases h
/-- the frame by this number is no witness: it isn't of the kind, or the formula is valid -/
def gd (kk : Nat) (g : Nat → Int32) (e : Nat → Nat) (n x : Nat) : Bool := !ftk kk n (gr n x) || vall g e (gr n x) n
abbrev K9 := Option (Int32 × Int32 × Int32 × Int32 × Int32 × Int32 × (Nat → Int64) × (Nat → Int64) × (Nat → Int64))
def frG (kk : Nat) (g : Nat → Int32) (e : Nat → Nat) (n : Nat) (o : K9) : Prop :=
  (∃ a b c d f p q h, o = some (-1, a, b, c, d, f, p, q, h) ∧ ∀ x, x < 2 ^ (n * n) → gd kk g e n x = true) ∨
  (∃ x a b c d f p q h, o = some (nI x, a, b, c, d, f, p, q, h) ∧ x < 2 ^ (n * n) ∧ gd kk g e n x = false ∧ (∀ y, y < x → gd kk g e n y = true) ∧ ∀ l a, l < 64 → a < n → bL (h a) l = vl g e (gr n x) n l a)
theorem firstRefuting_e {kk : Nat} (hk : kk < 5) {L : Nat} {g : Nat → Int32} {e : Nat → Nat} {signs ends : Nat → Int32} (hf : RFo L g e signs ends) (hL : 0 < L) {n : Nat} (hn : n < 4) (a b c d f : Int32) (vp vq held : Nat → Int64) :
    frG kk g e n (f_X8_firstRefuting (nI kk) (nI L) signs ends a b c d f vp vq held (nI n)) := by
  unfold f_X8_firstRefuting
  have hnn := nn_k n hn
  rw [hnn.1]
  have h5 := hnn.2
  generalize hM : 2 ^ (n * n) = M at h5
  refine k_runE (N := 1000) (frG kk g e n) M
    (fun (k : Nat) (s : Int32 × Int32 × Int32 × Int32 × Int32 × Int32 × (Nat → Int64) × (Nat → Int64) × (Nat → Int64)) => s.1 = nI k ∧ ∀ x, x < k → gd kk g e n x = true) (by omega) ⟨rfl, fun x h => absurd h (Nat.not_lt_zero x)⟩ ?_ ?_ ?_
  · intro rc k s hk2 hI
    obtain ⟨h1, h2⟩ := hI
    have hnext : gd kk g e n k = true → ∀ x, x < k + 1 → gd kk g e n x = true := fun h x hx => by
      by_cases q : x = k
      · rw [q]; exact h
      · exact h2 x (by omega)
    try dsimp only
    rw [h1, if_neg (nI_nge4 (by omega) (by omega) hk2), build_e hn (show k < 512 by omega), Option.bind_some]
    try dsimp only
    rw [fits_e hk (show n ≤ 4 by omega) (gr_in n k), Option.bind_some, nI_1]
    cases hft : ftk kk n (gr n k)
    · exact Or.inl ⟨_, ⟨rfl, hnext (by unfold gd; rw [hft]; rfl)⟩, rfl⟩
    · simp only [if_true, i10, if_false]
      rcases isValid_e hf hL (show n ≤ 4 by omega) (gr_in n k) s.2.2.2.2.2.2.1 s.2.2.2.2.2.2.2.1 s.2.2.2.2.2.2.2.2 with ⟨vp', vq', held', e1, e2⟩ | ⟨vp', vq', held', e1, ⟨m, e2, e3⟩, e4⟩
      · rw [e1, Option.bind_some]
        exact Or.inl ⟨_, ⟨rfl, hnext (by unfold gd; rw [vall_t e2, Bool.or_true])⟩, rfl⟩
      · rw [e1, Option.bind_some]
        refine Or.inr ⟨_, rfl, Or.inr ⟨k, _, _, _, _, _, _, _, _, rfl, by rw [hM]; exact hk2, by unfold gd; rw [hft, vall_f e2 e3]; rfl, h2, e4 hn⟩⟩
  · intro rc s hI
    try dsimp only
    rw [hI.1, if_pos (nI_ge4 (by omega) (by omega) (Nat.le_refl _))]
  · intro s hI
    exact Or.inl ⟨_, _, _, _, _, _, _, _, rfl, fun x hx => hI.2 x (by rw [hM] at hx; exact hx)⟩
/-- the first world where it fails -/
theorem first_w {w : Nat} {f : Nat → Bool} (h : ∃ a, a < w ∧ f a = false) : ∃ a, a < w ∧ f a = false ∧ ∀ b, b < a → f b = true := by
  rcases first_of (N := w) f with h1 | h1
  · obtain ⟨a, ha, hb⟩ := h
    rw [h1 a ha] at hb; cases hb
  · exact h1
theorem val_w {w : Nat} {g : Nat → Int32} {e : Nat → Nat} {R : Nat → Nat → Bool} {n : Nat} (h : val g e R w n = false) : ∃ a, a < w ∧ vl g e R w n a = false := Classical.byContradiction (fun q => by
  have : val g e R w n = true := val_iff.mpr (fun a ha => by
    cases hv : vl g e R w n a
    · exact absurd ⟨a, ha, hv⟩ q
    · rfl)
  rw [this] at h; cases h)
theorem vall_w {w : Nat} {g : Nat → Int32} {e : Nat → Nat} {R : Nat → Nat → Bool} (h : vall g e R w = false) : ∃ n, n < 2 ^ (2 * w) ∧ val g e R w n = false := Classical.byContradiction (fun q => by
  have : vall g e R w = true := vall_t (fun n hn => by
    cases hv : val g e R w n
    · exact absurd ⟨n, hn, hv⟩ q
    · rfl)
  rw [this] at h; cases h)
theorem lane_get {x : Int64} {l : Nat} (hl : l < 64) : (lg_cmp ((k_lshr x (nI l)) &&& 1) 0 = 0) ↔ bL x l = false := by
  rw [lg_cmp_eq]
  have h : k_lshr x (nI l) = x >>> lN l := by
    unfold k_lshr
    rw [wb_c l hl]
  have hb : ∀ j, j < 64 → bL (k_lshr x (nI l) &&& 1) j = (decide (j = 0) && bL x l) := fun j hj => by
    rw [c_and, show bL 1 j = decide (j = 0) by rw [show (1 : Int64) = lN 1 from rfl, bL_lN, tb1, decide_eq_true hj]; rfl]
    by_cases q : j = 0
    · subst q
      rw [h]
      have e : bL (x >>> lN l) 0 = bL x l := by
        show (x >>> lN l).toBitVec.getLsbD 0 = _
        rw [Int64.toBitVec_shiftRight, show (lN l).toBitVec.smod 64 = BitVec.ofNat 64 l from wb_sm l hl]
        show (BitVec.sshiftRight x.toBitVec (BitVec.ofNat 64 l).toNat).getLsbD 0 = _
        rw [BitVec.toNat_ofNat, Nat.mod_eq_of_lt (by omega), BitVec.getLsbD_sshiftRight]
        simp [bL, hl]
      rw [e, Bool.and_comm]
    · rw [decide_eq_false q]; simp
  rw [c_eq0]
  constructor
  · intro h2
    have := h2 0 (by omega)
    rw [hb 0 (by omega)] at this
    exact this
  · intro h2 j hj
    rw [hb j hj, h2, Bool.and_false]
theorem lowestWithout_e {held : Nat → Int64} {w l : Nat} (hw : w ≤ 4) (hl : l < 64) {a : Nat} (ha : a < w) (h1 : bL (held a) l = false) (h2 : ∀ b, b < a → bL (held b) l = true) : f_X7_lowestWithout held (nI l) (nI w) = some (nI a) := by
  unfold f_X7_lowestWithout
  refine k_srchG (N := 1000) (fun (o : Option Int32) => o = some (nI a)) w (fun k => nI k) (fun k => bL (held k) l) (fun k => some (nI k)) (by omega) rfl ?_ ?_ ?_ ?_
  · intro rc k hk
    try dsimp only
    rw [if_neg (nI_nge4 (by omega) (by omega) hk), show f_X7_at held 0 (nI k) = some (held k) by
        have := at_e held (show 0 < 16 by omega) (show k < 4 by omega)
        rw [show 4 * 0 + k = k by omega] at this
        exact this, Option.bind_some, nI_1]
    cases h : bL (held k) l
    · rw [if_pos ((lane_get hl).mpr h)]; rfl
    · rw [if_neg (fun q => by rw [(lane_get hl).mp q] at h; cases h)]; rfl
  · intro rc
    try dsimp only
    rw [if_pos (nI_ge4 (by omega) (by omega) (Nat.le_refl w))]
  · intro k hk h3 h4
    rw [first_u (f := fun k => bL (held k) l) h3 h4 h1 h2]
  · intro h
    have := h a ha
    rw [h1] at this; cases this
