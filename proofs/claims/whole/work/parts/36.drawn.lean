/-! drawn: the same numbers, the same sums -/
def nx (s : Nat) : Nat := (1103515245 * s + 12345) % 2 ^ 31
def sq (s : Nat) : Nat → Nat
  | 0 => s
  | n + 1 => nx (sq s n)
theorem nx_lt (s : Nat) : nx s < 2 ^ 31 := Nat.mod_lt _ (by decide)
theorem sq_lt {s : Nat} (h : s < 2 ^ 31) : ∀ n, sq s n < 2 ^ 31
  | 0 => h
  | n + 1 => nx_lt _
theorem nx_i (s : Nat) : ((1103515245 : Int32) * nI s + 12345) &&& 2147483647 = nI (nx s) := by
  rw [show (1103515245 : Int32) = nI 1103515245 from rfl, pk_mul, show (12345 : Int32) = nI 12345 from rfl, nI_add, show (2147483647 : Int32) = nI (2 ^ 31 - 1) from rfl, nI_and, Nat.and_two_pow_sub_one_eq_mod]
  rfl
theorem nx_l {s : Nat} (h : s < 2 ^ 31) : ((1103515245 : Int64) * lN s + 12345) &&& 2147483647 = lN (nx s) := by
  have e : (2147483647 : Int64) = lN (2 ^ 31 - 1) := rfl
  rw [show (1103515245 : Int64) = lN 1103515245 from rfl, lN_mul, show (12345 : Int64) = lN 12345 from rfl, lN_add, e, lN_and (by omega) (by omega), Nat.and_two_pow_sub_one_eq_mod]
  rfl
def dn (s w d a : Nat) : Nat := sq s (d * w + a + 1) / 65536 % 4
theorem num_i {t : Nat} (h : t < 2 ^ 31) : (nI t >>> ((16 : Int32) &&& 31)) &&& 3 = nI (t / 65536 % 4) := by
  rw [pk_shrN h _ 16 rfl, show (3 : Int32) = nI (2 ^ 2 - 1) from rfl, nI_and, Nat.and_two_pow_sub_one_eq_mod]
theorem num_l {t : Nat} (h : t < 2 ^ 31) : Int64.toInt32 (lN t / 65536 - lN t / 65536 / (Int32.toInt64 4) * (Int32.toInt64 4)) = nI (t / 65536 % 4) := by
  rw [show (65536 : Int64) = lN 65536 from rfl, pk_lDiv (by omega) (by omega) (by omega), show Int32.toInt64 4 = lN 4 from rfl, pk_lRem (by omega) (by omega) (by omega), lN_i]
def Pd (s w d a : Nat) : Bool := decide (dn s w d a % 2 = 1)
def Qd (s w d a : Nat) : Bool := decide (2 ≤ dn s w d a)
theorem dn_lt (s w d a : Nat) : dn s w d a < 4 := Nat.mod_lt _ (by decide)
theorem bits_k : ∀ v, v < 4 → f_X8_bit (nI v) 0 = (if decide (v % 2 = 1) then 1 else 0) ∧ f_X8_bit (nI v) 1 = (if decide (2 ≤ v) then 1 else 0) ∧ nI v &&& 1 = (if decide (v % 2 = 1) then 1 else 0) ∧ nI v >>> ((1 : Int32) &&& 31) = (if decide (2 ≤ v) then 1 else 0) := by decide +kernel
theorem one_lane (b : Bool) {d : Nat} (hd : d < 64) {l : Nat} (hl : l < 64) : bL (k_lshl (Int32.toInt64 (if b then 1 else 0)) (nI d)) l = (b && decide (l = d)) := by
  unfold k_lshl
  cases b
  · show bL ((lN 0) <<< _) l = _
    rw [wb_shl 0 hd, Nat.zero_mul]
    exact c_0 l
  · show bL ((lN 1) <<< _) l = _
    rw [wb_shl 1 hd, Nat.one_mul, bL_lN, Nat.testBit_two_pow, decide_eq_true hl]
    by_cases q : l = d
    · rw [decide_eq_true q, decide_eq_true q.symm]
    · rw [decide_eq_false q, decide_eq_false (fun z => q z.symm), Bool.and_false]
theorem addLetters_e (vp vq : Nat → Int64) {a : Nat} (ha : a < 4) (x d : Int32) : f_X7_addLetters vp vq (nI a) x d = some (vp_updL vp a (vp a ||| k_lshl (Int32.toInt64 (f_X8_bit x 0)) d), vp_updL vq a (vq a ||| k_lshl (Int32.toInt64 (f_X8_bit x 1)) d)) := by
  unfold f_X7_addLetters
  rw [show f_X8_isBelow (nI a) 4 = 1 from below_e (n := 4) ha (by omega), chk_e ha (by omega), chk_e ha (by omega), chk_e ha (by omega), chk_e ha (by omega), cl_e (show a < 2 ^ 31 by omega)]
  rfl
/-- so far as draw d, world m -/
def dfar (d m l a : Nat) : Bool := decide (l < d) || (decide (l = d) && decide (a < m))
theorem dfar_s (d m l a : Nat) : dfar d (m + 1) l a = (dfar d m l a || (decide (l = d) && decide (a = m))) := by
  unfold dfar
  by_cases h : l = d
  · subst h
    rw [decide_eq_false (show ¬ l < l by omega), decide_eq_true rfl]
    by_cases h1 : a = m
    · subst h1; simp
    · by_cases h2 : a < m
      · rw [decide_eq_true h2, decide_eq_true (show a < m + 1 by omega)]; rfl
      · rw [decide_eq_false h2, decide_eq_false (show ¬ a < m + 1 by omega), decide_eq_false h1]; rfl
  · rw [decide_eq_false h]; simp
def lanW (s w d m : Nat) (vp vq : Nat → Int64) : Prop := ∀ a l, a < w → l < 64 → bL (vp a) l = (dfar d m l a && Pd s w l a) ∧ bL (vq a) l = (dfar d m l a && Qd s w l a)
theorem useDrawn_e (vp vq : Nat → Int64) {n s w : Nat} (hn : n ≤ 60) (hs : s < 2 ^ 31) (hw : w ≤ 4) : ∃ vp' vq', f_X7_useDrawn vp vq (nI n) (nI s) (nI w) = some (nI (sq s (n * w)), vp', vq') ∧ lanW s w n 0 vp' vq' := by
  unfold f_X7_useDrawn
  refine k_runG (N := 1000) (fun (o : Option (Int32 × (Nat → Int64) × (Nat → Int64))) => ∃ vp' vq', o = some (nI (sq s (n * w)), vp', vq') ∧ lanW s w n 0 vp' vq') 4 (fun (k : Nat) (t : Int32 × (Nat → Int64) × (Nat → Int64)) => t.1 = nI k ∧ ∀ a, a < k → t.2.1 a = 0 ∧ t.2.2 a = 0) (by omega) ⟨rfl, fun a h => absurd h (Nat.not_lt_zero a)⟩ ?_ ?_ ?_
  · intro rc k t hk hI
    obtain ⟨h1, h2⟩ := hI
    refine ⟨(nI (k + 1), vp_updL t.2.1 k 0, vp_updL t.2.2 k 0), ⟨rfl, fun a h3 => ?_⟩, ?_⟩
    · try dsimp only
      by_cases g : a = k
      · rw [g, pk_uLs, pk_uLs]; exact ⟨rfl, rfl⟩
      · rw [pk_uLn g, pk_uLn g]; exact h2 a (by omega)
    · try dsimp only
      rw [h1, if_neg (show ¬ (4 : Int32) ≤ nI k from nI_nge4 (a := 4) (by omega) (by omega) hk), setLetters_e _ _ hk, Option.bind_some, nI_1]
  · intro rc t hI
    try dsimp only
    rw [hI.1, if_pos (show (4 : Int32) ≤ nI 4 from nI_ge4 (a := 4) (by omega) (by omega) (Nat.le_refl 4))]
  · intro t hI
    obtain ⟨-, h0⟩ := hI
    generalize t.2.1 = vp1 at h0 ⊢
    generalize t.2.2 = vq1 at h0 ⊢
    clear t
    refine k_runG (N := 1000) (fun (o : Option (Int32 × (Nat → Int64) × (Nat → Int64))) => ∃ vp' vq', o = some (nI (sq s (n * w)), vp', vq') ∧ lanW s w n 0 vp' vq') n (fun (d : Nat) (t : Int32 × Int32 × (Nat → Int64) × (Nat → Int64)) => t.1 = nI (sq s (d * w)) ∧ t.2.1 = nI d ∧ lanW s w d 0 t.2.2.1 t.2.2.2) (by omega) ⟨by rw [Nat.zero_mul]; rfl, rfl, fun a l ha hl => ?_⟩ ?_ ?_ ?_
    · have e : dfar 0 0 l a = false := by unfold dfar; simp
      try dsimp only
      rw [e, (h0 a (by omega)).1, (h0 a (by omega)).2, c_0]
      exact ⟨rfl, rfl⟩
    · intro rc d t hd hI
      obtain ⟨h1, h2, h3⟩ := hI
      try dsimp only
      rw [h2, if_neg (nI_nge4 (by omega) (by omega) hd), h1]
      refine k_runG (N := 1000) (a0 := (nI (sq s (d * w)), 0, t.2.2.1, t.2.2.2)) (fun (o : Option (Int32 × (Nat → Int64) × (Nat → Int64))) => ∃ a', (a'.1 = nI (sq s ((d + 1) * w)) ∧ a'.2.1 = nI (d + 1) ∧ lanW s w (d + 1) 0 a'.2.2.1 a'.2.2.2) ∧ o = rc a') w (fun (m : Nat) (t : Int32 × Int32 × (Nat → Int64) × (Nat → Int64)) => t.1 = nI (sq s (d * w + m)) ∧ t.2.1 = nI m ∧ lanW s w d m t.2.2.1 t.2.2.2) (by omega) ⟨rfl, rfl, h3⟩ ?_ ?_ ?_
      · intro rc2 m t2 hm hI2
        obtain ⟨g1, g2, g3⟩ := hI2
        have hdn : nI (sq s (d * w + m + 1) / 65536 % 4) = nI (dn s w d m) := rfl
        obtain ⟨b1, b2, -, -⟩ := bits_k _ (dn_lt s w d m)
        refine ⟨(nI (sq s (d * w + (m + 1))), nI (m + 1), vp_updL t2.2.2.1 m (t2.2.2.1 m ||| k_lshl (Int32.toInt64 (if Pd s w d m then 1 else 0)) (nI d)), vp_updL t2.2.2.2 m (t2.2.2.2 m ||| k_lshl (Int32.toInt64 (if Qd s w d m then 1 else 0)) (nI d))), ⟨rfl, rfl, fun a l ha hl => ?_⟩, ?_⟩
        · try dsimp only
          rw [dfar_s]
          by_cases g : a = m
          · subst g
            rw [pk_uLs, pk_uLs, c_or, c_or, one_lane _ (show d < 64 by omega) hl, one_lane _ (show d < 64 by omega) hl, (g3 a l ha hl).1, (g3 a l ha hl).2, decide_eq_true (rfl : a = a), Bool.and_true]
            by_cases q : l = d
            · subst q
              rw [decide_eq_true rfl, Bool.or_true, Bool.and_true, Bool.and_true, Bool.true_and, Bool.true_and]
              cases dfar l a l a <;> cases Pd s w l a <;> cases Qd s w l a <;> exact ⟨rfl, rfl⟩
            · rw [decide_eq_false q, Bool.or_false, Bool.and_false, Bool.or_false, Bool.and_false, Bool.or_false]
              exact ⟨rfl, rfl⟩
          · rw [pk_uLn g, pk_uLn g, decide_eq_false g, Bool.and_false, Bool.or_false]
            exact g3 a l ha hl
        · try dsimp only
          rw [g2, g1, if_neg (nI_nge4 (by omega) (by omega) hm), nx_i, show nx (sq s (d * w + m)) = sq s (d * w + m + 1) from rfl, num_i (sq_lt hs _), hdn, addLetters_e _ _ (show m < 4 by omega), Option.bind_some, b1, b2, nI_1]
          rfl
      · intro rc2 t2 hI2
        try dsimp only
        rw [hI2.2.1, if_pos (nI_ge4 (by omega) (by omega) (Nat.le_refl w))]
      · intro t2 hI2
        obtain ⟨g1, g2, g3⟩ := hI2
        refine ⟨_, ⟨?_, ?_, fun a l ha hl => ?_⟩, rfl⟩
        · try dsimp only
          rw [g1, show (d + 1) * w = d * w + w by rw [Nat.add_mul, Nat.one_mul]]
        · try dsimp only
          rw [nI_1]
        · have e : dfar (d + 1) 0 l a = dfar d w l a := by
            unfold dfar
            rw [decide_eq_true ha, decide_eq_false (show ¬ a < 0 by omega), Bool.and_false, Bool.and_true, Bool.or_false]
            by_cases q : l < d
            · rw [decide_eq_true q, decide_eq_true (show l < d + 1 by omega)]; rfl
            · by_cases q2 : l = d
              · rw [decide_eq_true q2, decide_eq_true (show l < d + 1 by omega), Bool.or_true]
              · rw [decide_eq_false q2, decide_eq_false q, decide_eq_false (show ¬ l < d + 1 by omega)]; rfl
          rw [e]
          exact g3 a l ha hl
    · intro rc t hI
      try dsimp only
      rw [hI.2.1, if_pos (nI_ge4 (by omega) (by omega) (Nat.le_refl n))]
    · intro t hI
      exact ⟨_, _, by rw [hI.1], hI.2.2⟩
def Hd (s w : Nat) (g : Nat → Int32) (e : Nat → Nat) (R : Nat → Nat → Bool) (d a : Nat) : Bool := hp g e R (Pd s w d) (Qd s w d) 0 a
theorem ct_sm (p : Nat → Bool) : ∀ n, fb_ct p n = fb_sm (fun k => if p k then 1 else 0) n
  | 0 => rfl
  | n + 1 => by rw [fb_ct_succ, fb_sm_succ, ct_sm p n]
theorem sum_swap (H : Nat → Nat → Bool) (w : Nat) : ∀ n, fb_sm (fun a => fb_ct (fun l => H l a) n) w = fb_sm (fun d => fb_ct (H d) w) n
  | 0 => by
    show fb_sm (fun _ => 0) w = 0
    rw [fb_sm_const, Nat.mul_zero]
  | n + 1 => by
    rw [fb_sm_succ, ← sum_swap H w n, ct_sm (H n) w, ← fb_sm_add]
    rfl
theorem mask_e {n : Nat} (hn : n ≤ 60) {l : Nat} (hl : l < 64) : bL (k_lshl 1 (nI n) - 1) l = decide (l < n) := by
  unfold k_lshl
  have h1 : 1 ≤ 2 ^ n := Nat.one_le_two_pow
  show bL (lN 1 <<< _ - lN 1) l = _
  rw [wb_shl 1 (show n < 64 by omega), Nat.one_mul, lN_sub h1, bL_lN, Nat.testBit_two_pow_sub_one, decide_eq_true hl]
  rfl
theorem bcl_e {x : Int64} {n : Nat} (hn : n ≤ 60) {f : Nat → Bool} (h : ∀ l, l < 64 → bL x l = (decide (l < n) && f l)) : f_J13_bitCount_95d88 x = nI (fb_ct f n) := by
  have e : x = lN (bN (fun l => decide (l < n) && f l) 64) := c_ext (fun l hl => by rw [h l hl, bL_lN, bN_tb, decide_eq_true hl]; rfl)
  rw [e, bc64_e]
  have h1 := fb_ct_split (fun a => decide (a < n) && f a) n (64 - n)
  rw [show n + (64 - n) = 64 by omega] at h1
  have h2 : fb_ct (fun k => decide (n + k < n) && f (n + k)) (64 - n) = 0 := fb_ct_zero.mpr (fun k _ => by rw [decide_eq_false (by omega)]; rfl)
  have h3 : fb_ct (fun a => decide (a < n) && f a) n = fb_ct f n := fb_ct_cong (fun k hk => by rw [decide_eq_true hk]; rfl)
  rw [h1]
  show nI (fb_ct (fun a => decide (a < n) && f a) n + fb_ct (fun k => decide (n + k < n) && f (n + k)) (64 - n)) = _
  rw [h2, h3]
  rfl
theorem heldIn_e {held : Nat → Int64} {n w : Nat} (hn : n ≤ 60) (hw : w ≤ 4) {H : Nat → Nat → Bool} (h : ∀ a l, a < w → l < n → bL (held a) l = H l a) : f_X7_heldIn held (k_lshl 1 (nI n) - 1) (nI w) = some (nI (fb_sm (fun a => fb_ct (fun l => H l a) n) w)) := by
  unfold f_X7_heldIn
  refine k_runG (N := 1000) (fun (o : Option Int32) => o = some (nI (fb_sm (fun a => fb_ct (fun l => H l a) n) w))) w (fun (k : Nat) (s : Int32 × Int32) => s.2 = nI k ∧ s.1 = nI (fb_sm (fun a => fb_ct (fun l => H l a) n) k)) (by omega) ⟨rfl, rfl⟩ ?_ ?_ ?_
  · intro rc k s hk hI
    obtain ⟨h1, h2⟩ := hI
    refine ⟨(nI (fb_sm (fun a => fb_ct (fun l => H l a) n) (k + 1)), nI (k + 1)), ⟨rfl, rfl⟩, ?_⟩
    try dsimp only
    rw [h1, h2, if_neg (nI_nge4 (by omega) (by omega) hk), show f_X7_at held 0 (nI k) = some (held k) by
        have := at_e held (show 0 < 16 by omega) (show k < 4 by omega)
        rw [show 4 * 0 + k = k by omega] at this
        exact this, Option.bind_some, nI_1, bcl_e hn (f := fun l => H l k) (fun l hl => by
          rw [c_and, mask_e hn hl]
          by_cases q : l < n
          · rw [h k l hk q, decide_eq_true q, Bool.and_true, Bool.true_and]
          · rw [decide_eq_false q, Bool.and_false, Bool.false_and]), nI_add, fb_sm_succ]
  · intro rc s hI
    try dsimp only
    rw [hI.1, if_pos (nI_ge4 (by omega) (by omega) (Nat.le_refl w))]
  · intro s hI
    rw [hI.2]
theorem size_e (f : Nat → Bool) : f_X9_size (bI 4 f) = some (nI (fb_ct f 4)) := by
  unfold f_X9_size
  have h0 : fb_ct (fun k => bt (bI 4 f) k) 16 = fb_ct f 4 := by
    have h1 := fb_ct_split (fun k => bt (bI 4 f) k) 4 12
    rw [show 4 + 12 = 16 by omega] at h1
    have h2 : fb_ct (fun k => bt (bI 4 f) (4 + k)) 12 = 0 := fb_ct_zero.mpr (fun k _ => by rw [bt_bI (by omega), decide_eq_false (by omega)]; rfl)
    have h3 : fb_ct (fun k => bt (bI 4 f) k) 4 = fb_ct f 4 := fb_ct_cong (fun k hk => by rw [bt_bI (by omega), decide_eq_true hk]; rfl)
    rw [h1]
    show fb_ct (fun k => bt (bI 4 f) k) 4 + fb_ct (fun k => bt (bI 4 f) (4 + k)) 12 = _
    rw [h2, h3]
    rfl
  rw [← h0]
  generalize bI 4 f = x
  refine k_runG (N := 1000) (fun (o : Option Int32) => o = some (nI (fb_ct (fun k => bt x k) 16))) 16 (fun (k : Nat) (s : Int32 × Int32) => s.2 = nI k ∧ s.1 = nI (fb_ct (fun k => bt x k) k)) (by omega) ⟨rfl, rfl⟩ ?_ ?_ ?_
  · intro rc k s hk hI
    obtain ⟨h1, h2⟩ := hI
    refine ⟨(nI (fb_ct (fun k => bt x k) (k + 1)), nI (k + 1)), ⟨rfl, rfl⟩, ?_⟩
    try dsimp only
    rw [h1, h2, if_neg (show ¬ (16 : Int32) ≤ nI k from nI_nge4 (a := 16) (by omega) (by omega) hk), b_get (show k < 31 by omega), nI_1, fb_ct_succ]
    cases bt x k
    · rw [if_neg (by decide), if_neg (by decide)]
      show rc (_ + nI 0, _) = _
      rw [nI_add]
    · rw [if_pos rfl, if_pos rfl]
      show rc (_ + nI 1, _) = _
      rw [nI_add]
  · intro rc s hI
    try dsimp only
    rw [hI.1, if_pos (show (16 : Int32) ≤ nI 16 from nI_ge4 (a := 16) (by omega) (by omega) (Nat.le_refl 16))]
  · intro s hI
    rw [hI.2]
theorem sizew_e {w : Nat} (hw : w ≤ 4) (f : Nat → Bool) : f_X9_size (bI 4 (fun a => decide (a < w) && f a)) = some (nI (fb_ct f w)) := by
  rw [size_e]
  have h1 := fb_ct_split (fun a => decide (a < w) && f a) w (4 - w)
  rw [show w + (4 - w) = 4 by omega] at h1
  have h2 : fb_ct (fun k => decide (w + k < w) && f (w + k)) (4 - w) = 0 := fb_ct_zero.mpr (fun k _ => by rw [decide_eq_false (by omega)]; rfl)
  have h3 : fb_ct (fun a => decide (a < w) && f a) w = fb_ct f w := fb_ct_cong (fun k hk => by rw [decide_eq_true hk]; rfl)
  rw [h1]
  show some (nI (fb_ct (fun a => decide (a < w) && f a) w + fb_ct (fun k => decide (w + k < w) && f (w + k)) (4 - w))) = _
  rw [h2, h3]
  rfl
