/-! all markings at once: 64 lanes and 256 words -/
theorem k_runE {α β : Type} {b : (α → Option β) → (α → Option β) → α → Option β} {ex : α → Option β} {N : Nat} {a0 : α} (G : Option β → Prop) (n : Nat) (I : Nat → α → Prop) (hN : n < N) (h0 : I 0 a0)
    (hs : ∀ (rc : α → Option β) (k : Nat) (a : α), k < n → I k a → (∃ a', I (k + 1) a' ∧ b ex rc a = rc a') ∨ ∃ o, b ex rc a = o ∧ G o) (hx : ∀ (rc : α → Option β) (a : α), I n a → b ex rc a = ex a) (hG : ∀ a, I n a → G (ex a)) : G (k_it b ex N a0) := by
  rcases k_run (b := b) (ex := ex) n I G (fun rc k a hk h => (hs rc k a hk h).imp id (fun ⟨o, e, g⟩ => by rw [e]; exact g)) hx hN h0 with ⟨a, h1, h2⟩ | h
  · rw [h2]
    exact hG a h1
  · exact h
theorem stp_letters {w : Nat} {g : Nat → Int32} {e : Nat → Nat} {R : Nat → Nat → Bool} (hR : ∀ a b, R a b = true → a < w ∧ b < w) {P Q P' Q' : Nat → Bool} (hP : ∀ a, a < w → P a = P' a) (hQ : ∀ a, a < w → Q a = Q' a) {X Y : Nat → Nat → Bool} (h : ∀ i a, a < w → X i a = Y i a) {i a : Nat} (ha : a < w) : stp g e R P Q X i a = stp g e R P' Q' Y i a := by
  have e1 : (List.range 4).all (fun b => !R a b || X (i + 1) b) = (List.range 4).all (fun b => !R a b || Y (i + 1) b) := all4_congr (fun b => by
    cases hr : R a b
    · rfl
    · rw [h _ b (hR a b hr).2])
  have e2 : (List.range 4).any (fun b => R a b && X (i + 1) b) = (List.range 4).any (fun b => R a b && Y (i + 1) b) := any4_congr (fun b => by
    cases hr : R a b
    · rfl
    · rw [h _ b (hR a b hr).2])
  unfold stp
  rw [e1, e2, h (i + 1) a ha, h (e (i + 1)) a ha, hP a ha, hQ a ha]
theorem hpf_letters {w : Nat} {g : Nat → Int32} {e : Nat → Nat} {R : Nat → Nat → Bool} (hR : ∀ a b, R a b = true → a < w ∧ b < w) {P Q P' Q' : Nat → Bool} (hP : ∀ a, a < w → P a = P' a) (hQ : ∀ a, a < w → Q a = Q' a) : ∀ n i a, a < w → hpf g e R P Q n i a = hpf g e R P' Q' n i a
  | 0, _, _, _ => rfl
  | n + 1, _, _, ha => stp_letters hR hP hQ (hpf_letters hR hP hQ n) ha
theorem hp_letters {w : Nat} {g : Nat → Int32} {e : Nat → Nat} {R : Nat → Nat → Bool} (hR : ∀ a b, R a b = true → a < w ∧ b < w) {P Q P' Q' : Nat → Bool} (hP : ∀ a, a < w → P a = P' a) (hQ : ∀ a, a < w → Q a = Q' a) {i a : Nat} (ha : a < w) : hp g e R P Q i a = hp g e R P' Q' i a := hpf_letters hR hP hQ _ i a ha
def vl (g : Nat → Int32) (e : Nat → Nat) (R : Nat → Nat → Bool) (w n a : Nat) : Bool := hp g e R (fun a => n.testBit a) (fun a => n.testBit (w + a)) 0 a
def val (g : Nat → Int32) (e : Nat → Nat) (R : Nat → Nat → Bool) (w n : Nat) : Bool := (List.range w).all (vl g e R w n)
theorem vl_mod {w : Nat} (g : Nat → Int32) (e : Nat → Nat) {R : Nat → Nat → Bool} (hR : ∀ a b, R a b = true → a < w ∧ b < w) (n : Nat) {a : Nat} (ha : a < w) : vl g e R w (n % 2 ^ (2 * w)) a = vl g e R w n a := hp_letters hR (fun a ha => by
    try dsimp only
    rw [Nat.testBit_mod_two_pow, decide_eq_true (show a < 2 * w by omega), Bool.true_and]) (fun a ha => by
    try dsimp only
    rw [Nat.testBit_mod_two_pow, decide_eq_true (show w + a < 2 * w by omega), Bool.true_and]) ha
theorem val_iff {w : Nat} {g : Nat → Int32} {e : Nat → Nat} {R : Nat → Nat → Bool} {n : Nat} : val g e R w n = true ↔ ∀ a, a < w → vl g e R w n a = true := by
  unfold val
  rw [List.all_eq_true]
  exact ⟨fun h a ha => h a (List.mem_range.mpr ha), fun h a ha => h a (List.mem_range.mp ha)⟩
theorem val_mod {w : Nat} (g : Nat → Int32) (e : Nat → Nat) {R : Nat → Nat → Bool} (hR : ∀ a b, R a b = true → a < w ∧ b < w) (n : Nat) : val g e R w (n % 2 ^ (2 * w)) = val g e R w n := by
  rw [Bool.eq_iff_iff, val_iff, val_iff]
  exact ⟨fun h a ha => by rw [← vl_mod g e hR n ha]; exact h a ha, fun h a ha => by rw [vl_mod g e hR n ha]; exact h a ha⟩
theorem lanesK : ∀ j, j < 8 → ∀ b, b < 4 → (f_X7_lanesOfBit (nI j) (nI b)).isSome = true ∧ ∀ l, l < 64 → bL ((f_X7_lanesOfBit (nI j) (nI b)).getD 0) l = (l + 64 * b).testBit j := by decide +kernel
theorem lanesOfBit_e {j b : Nat} (hj : j < 8) (hb : b < 4) : ∃ x, f_X7_lanesOfBit (nI j) (nI b) = some x ∧ ∀ l, l < 64 → bL x l = (l + 64 * b).testBit j := by
  obtain ⟨h1, h2⟩ := lanesK j hj b hb
  obtain ⟨x, hx⟩ := Option.isSome_iff_exists.mp h1
  rw [hx] at h2
  exact ⟨x, hx, h2⟩
theorem useBlock_e (vp vq : Nat → Int64) {w b : Nat} (hw : w ≤ 4) (hb : b < 4) : ∃ vp' vq', f_X7_useBlock vp vq (nI b) (nI w) = some (vp', vq') ∧ ∀ a l, a < w → l < 64 → bL (vp' a) l = (l + 64 * b).testBit a ∧ bL (vq' a) l = (l + 64 * b).testBit (w + a) := by
  unfold f_X7_useBlock
  refine k_runG (N := 1000) (fun (o : Option ((Nat → Int64) × (Nat → Int64))) => ∃ vp' vq', o = some (vp', vq') ∧ ∀ a l, a < w → l < 64 → bL (vp' a) l = (l + 64 * b).testBit a ∧ bL (vq' a) l = (l + 64 * b).testBit (w + a)) w (fun (k : Nat) (s : Int32 × (Nat → Int64) × (Nat → Int64)) => s.1 = nI k ∧ ∀ a l, a < k → l < 64 → bL (s.2.1 a) l = (l + 64 * b).testBit a ∧ bL (s.2.2 a) l = (l + 64 * b).testBit (w + a)) (by omega) ⟨rfl, fun a l h => by omega⟩ ?_ ?_ ?_
  · intro rc k s hk hI
    obtain ⟨h1, h2⟩ := hI
    obtain ⟨x, x1, x2⟩ := lanesOfBit_e (show k < 8 by omega) hb
    obtain ⟨y, y1, y2⟩ := lanesOfBit_e (show w + k < 8 by omega) hb
    refine ⟨(nI (k + 1), vp_updL s.2.1 k x, vp_updL s.2.2 k y), ⟨rfl, fun a l h3 h4 => ?_⟩, ?_⟩
    · try dsimp only
      by_cases g : a = k
      · rw [g, pk_uLs, pk_uLs]
        exact ⟨x2 l h4, y2 l h4⟩
      · rw [pk_uLn g, pk_uLn g]
        exact h2 a l (by omega) h4
    · try dsimp only
      rw [h1, if_neg (nI_nge4 (by omega) (by omega) hk), x1, nI_add, y1, Option.bind_some, Option.bind_some, setLetters_e _ _ (show k < 4 by omega), Option.bind_some, nI_1]
  · intro rc s hI
    try dsimp only
    rw [hI.1, if_pos (nI_ge4 (by omega) (by omega) (Nat.le_refl w))]
  · intro s hI
    exact ⟨_, _, rfl, hI.2⟩
theorem refuting_e (held : Nat → Int64) {w : Nat} (hw : w ≤ 4) : ∃ x, f_X7_refuting held (nI w) = some x ∧ ∀ l, l < 64 → bL x l = (List.range w).any (fun a => !bL (held a) l) := by
  unfold f_X7_refuting
  refine k_runG (N := 1000) (fun (o : Option Int64) => ∃ x, o = some x ∧ ∀ l, l < 64 → bL x l = (List.range w).any (fun a => !bL (held a) l)) w (fun (k : Nat) (s : Int64 × Int32) => s.2 = nI k ∧ ∀ l, l < 64 → bL s.1 l = (List.range k).any (fun a => !bL (held a) l)) (by omega) ⟨rfl, fun l hl => c_0 l⟩ ?_ ?_ ?_
  · intro rc k s hk hI
    obtain ⟨h1, h2⟩ := hI
    refine ⟨(s.1 ||| (held k ^^^ (-1)), nI (k + 1)), ⟨rfl, fun l hl => ?_⟩, ?_⟩
    · try dsimp only
      rw [any_s, ← h2 l hl, c_or, c_not _ hl]
    · try dsimp only
      rw [h1, if_neg (nI_nge4 (by omega) (by omega) hk), show f_X7_at held 0 (nI k) = some (held k) by
        have := at_e held (show 0 < 16 by omega) (show k < 4 by omega)
        rw [show 4 * 0 + k = k by omega] at this
        exact this, Option.bind_some, nI_1]
  · intro rc s hI
    try dsimp only
    rw [hI.1, if_pos (nI_ge4 (by omega) (by omega) (Nat.le_refl w))]
  · intro s hI
    exact ⟨s.1, rfl, hI.2⟩
theorem c_eq0 (x : Int64) : x = 0 ↔ ∀ l, l < 64 → bL x l = false := ⟨fun h l _ => by rw [h]; exact c_0 l, fun h => c_ext (fun l hl => by rw [h l hl, c_0])⟩
theorem any_nall {w : Nat} {f : Nat → Bool} : (List.range w).any (fun a => !f a) = !(List.range w).all f := by
  induction w with
  | zero => rfl
  | succ w ih => rw [any_s, all_s, ih]; cases (List.range w).all f <;> cases f w <;> rfl
theorem isValid_e {L : Nat} {g : Nat → Int32} {e : Nat → Nat} {signs ends : Nat → Int32} (hf : RFo L g e signs ends) (hL : 0 < L) {w : Nat} (hw : w ≤ 4) {R : Nat → Nat → Bool} (hR : ∀ a b, R a b = true → a < w ∧ b < w) (vp vq held : Nat → Int64) :
    (∃ vp' vq' held', f_X7_isValid vp vq held (nI L) signs ends (nI w) (eA R) = some (1, vp', vq', held') ∧ ∀ n, n < 2 ^ (2 * w) → val g e R w n = true) ∨
    (∃ vp' vq' held', f_X7_isValid vp vq held (nI L) signs ends (nI w) (eA R) = some (0, vp', vq', held') ∧ (∃ n, n < 2 ^ (2 * w) ∧ val g e R w n = false) ∧ (w < 4 → ∀ l a, l < 64 → a < w → bL (held' a) l = vl g e R w l a)) := by
  unfold f_X7_isValid
  have hbl : ∃ B, (B = if w = 4 then 4 else 1) ∧ (if 4 ≤ nI w then some 4 else some 1 : Option Int32) = some (nI B) := by
    by_cases h : w = 4
    · subst h; exact ⟨4, rfl, rfl⟩
    · exact ⟨1, (if_neg h).symm, if_neg (show ¬ (4 : Int32) ≤ nI w from nI_nge4 (a := 4) (by omega) (by omega) (by omega))⟩
  obtain ⟨B, hB, hB2⟩ := hbl
  have hB4 : B ≤ 4 := by rw [hB]; split <;> omega
  have hBw : B ≠ 4 → w < 4 ∧ B = 1 := fun h => by
    by_cases h4 : w = 4
    · rw [if_pos h4] at hB; exact absurd hB h
    · rw [if_neg h4] at hB; exact ⟨by omega, hB⟩
  have hpow : 2 ^ (2 * w) ≤ 64 * B := by
    by_cases h4 : w = 4
    · rw [if_pos h4] at hB; rw [hB, h4]; decide
    · rw [if_neg h4] at hB; rw [hB]
      have h6 : 2 ^ (2 * w) ≤ 2 ^ 6 := Nat.pow_le_pow_right (by omega) (by omega)
      exact h6
  have hup : 0 < 2 ^ (2 * w) := Nat.two_pow_pos _
  rw [hB2, Option.bind_some]
  refine k_runE (N := 1000) (fun (o : Option (Int32 × (Nat → Int64) × (Nat → Int64) × (Nat → Int64))) => (∃ vp' vq' held', o = some (1, vp', vq', held') ∧ ∀ n, n < 2 ^ (2 * w) → val g e R w n = true) ∨
    (∃ vp' vq' held', o = some (0, vp', vq', held') ∧ (∃ n, n < 2 ^ (2 * w) ∧ val g e R w n = false) ∧ (w < 4 → ∀ l a, l < 64 → a < w → bL (held' a) l = vl g e R w l a))) B
    (fun (k : Nat) (s : Int32 × (Nat → Int64) × (Nat → Int64) × (Nat → Int64)) => s.1 = nI k ∧ ∀ n, n < 64 * k → val g e R w n = true) (by omega) ⟨rfl, fun n h => by omega⟩ ?_ ?_ ?_
  · intro rc k s hk hI
    obtain ⟨h1, h2⟩ := hI
    obtain ⟨vp', vq', e1, e2⟩ := useBlock_e s.2.1 s.2.2.1 hw (show k < 4 by omega)
    obtain ⟨held', e3, e4⟩ := evaluate_e hf hw hR (P := fun l a => bL (vp' a) l) (Q := fun l a => bL (vq' a) l) (fun _ _ _ _ => rfl) (fun _ _ _ _ => rfl) s.2.2.2
    obtain ⟨x, e5, e6⟩ := refuting_e held' hw
    have hv : ∀ l a, l < 64 → a < w → bL (held' a) l = vl g e R w (l + 64 * k) a := fun l a hl ha => by
      have h3 := e4 0 a l (by omega) hL ha hl
      rw [show 4 * 0 + a = a by omega] at h3
      rw [h3]
      exact hp_letters hR (fun a ha => (e2 a l ha hl).1) (fun a ha => (e2 a l ha hl).2) ha
    have hx : ∀ l, l < 64 → bL x l = !val g e R w (l + 64 * k) := fun l hl => by
      rw [e6 l hl, any_nall]
      congr 1
      rw [Bool.eq_iff_iff, val_iff, List.all_eq_true]
      exact ⟨fun h a ha => by rw [← hv l a hl ha]; exact h a (List.mem_range.mpr ha), fun h a ha => by rw [hv l a hl (List.mem_range.mp ha)]; exact h a (List.mem_range.mp ha)⟩
    try dsimp only
    rw [h1, if_neg (nI_nge4 (by omega) (by omega) hk), e1, Option.bind_some, e3, Option.bind_some, e5, Option.bind_some, nI_1]
    by_cases h0 : x = 0
    · rw [if_pos ((lg_cmp_eq _ _).mpr h0)]
      refine Or.inl ⟨_, ⟨rfl, fun n hn => ?_⟩, rfl⟩
      by_cases h5 : n < 64 * k
      · exact h2 n h5
      · have h6 := (c_eq0 x).mp h0 (n - 64 * k) (by omega)
        rw [hx _ (by omega), show n - 64 * k + 64 * k = n by omega] at h6
        cases h7 : val g e R w n
        · rw [h7] at h6; cases h6
        · rfl
    · rw [if_neg (fun q => h0 ((lg_cmp_eq _ _).mp q))]
      refine Or.inr ⟨_, rfl, Or.inr ⟨_, _, _, rfl, ?_, fun h4 => ?_⟩⟩
      · have h8 : ∃ l, l < 64 ∧ bL x l = true := Classical.byContradiction (fun q => h0 ((c_eq0 x).mpr (fun l hl => by
          cases h : bL x l
          · rfl
          · exact absurd ⟨l, hl, h⟩ q)))
        obtain ⟨l, hl, h9⟩ := h8
        rw [hx l hl] at h9
        refine ⟨(l + 64 * k) % 2 ^ (2 * w), Nat.mod_lt _ hup, ?_⟩
        rw [val_mod g e hR]
        cases h7 : val g e R w (l + 64 * k)
        · rfl
        · rw [h7] at h9; cases h9
      · intro l a hl ha
        have h10 := hBw (by rw [hB, if_neg (by omega)]; decide)
        rw [hv l a hl ha, show k = 0 by omega, show l + 64 * 0 = l by omega]
  · intro rc s hI
    try dsimp only
    rw [hI.1, if_pos (nI_ge4 (by omega) (by omega) (Nat.le_refl B))]
  · intro s hI
    exact Or.inl ⟨_, _, _, rfl, fun n hn => hI.2 n (by omega)⟩
/-! the reference -/
theorem layMarksK : ∀ w, w < 5 → ∀ n, n < 256 → n < 2 ^ (2 * w) → f_X9_layMarks (nI w) 0 0 (nI n) = (bI 4 (fun a => decide (a < w) && n.testBit a), bI 4 (fun a => decide (a < w) && n.testBit (w + a))) := by decide +kernel
theorem layMarks_e {w n : Nat} (hw : w ≤ 4) (hn : n < 2 ^ (2 * w)) (p q : Int32) : f_X9_layMarks (nI w) p q (nI n) = (bI 4 (fun a => decide (a < w) && n.testBit a), bI 4 (fun a => decide (a < w) && n.testBit (w + a))) := by
  have h8 : 2 ^ (2 * w) ≤ 2 ^ 8 := Nat.pow_le_pow_right (by omega) (by omega)
  exact layMarksK w (by omega) n (by omega) hn
theorem pow_k : ∀ w, w < 5 → (1 : Int32) <<< ((2 * nI w) &&& 31) = nI (2 ^ (2 * w)) ∧ ((1 : Int32) <<< (nI w &&& 31)) - 1 = bI 4 (fun a => decide (a < w)) := by decide +kernel
theorem first_of {N : Nat} (f : Nat → Bool) : (∀ n, n < N → f n = true) ∨ ∃ n, n < N ∧ f n = false ∧ ∀ m, m < n → f m = true := by
  by_cases h : ∃ n, n < N ∧ f n = false
  · obtain ⟨n, ⟨h1, h2⟩, h3⟩ := pk_least (fun n => n < N ∧ f n = false) h
    refine Or.inr ⟨n, h1, h2, fun m hm => ?_⟩
    cases h5 : f m
    · exact absurd ⟨by omega, h5⟩ (h3 m hm)
    · rfl
  · refine Or.inl (fun n hn => ?_)
    cases h5 : f n
    · exact absurd ⟨n, hn, h5⟩ h
    · rfl
theorem first_u {f : Nat → Bool} {n m : Nat} (h1 : f n = false) (h2 : ∀ k, k < n → f k = true) (h3 : f m = false) (h4 : ∀ k, k < m → f k = true) : n = m := by
  rcases Nat.lt_trichotomy n m with q | q | q
  · rw [h4 n q] at h1; cases h1
  · exact q
  · rw [h2 m q] at h3; cases h3
theorem wbit_in {w n : Nat} (f : Nat → Nat) : ∀ a, (decide (a < w) && n.testBit (f a)) = true → a < w := fun a ha => by
  rw [Bool.and_eq_true, decide_eq_true_eq] at ha
  exact ha.1
theorem wbit_eq {w n : Nat} (f : Nat → Nat) : ∀ a, a < w → (decide (a < w) && n.testBit (f a)) = n.testBit (f a) := fun a ha => by rw [decide_eq_true ha, Bool.true_and]
theorem full_iff {w : Nat} (hw : w ≤ 4) (f : Nat → Bool) : bI 4 (fun a => decide (a < w) && f a) = bI 4 (fun a => decide (a < w)) ↔ ∀ a, a < w → f a = true := by
  constructor
  · intro h a ha
    have h3 := bI_inj (by omega) h a (by omega)
    rw [decide_eq_true ha, Bool.true_and] at h3
    exact h3
  · intro h
    refine bI_congr (fun a _ => ?_)
    by_cases ha : a < w
    · rw [decide_eq_true ha, h a ha, Bool.true_and]
    · rw [decide_eq_false ha, Bool.false_and]
theorem failOne_e {L : Nat} {g : Nat → Int32} {e : Nat → Nat} {signAt behind : Nat → Int32} (hf : RMo L g e signAt behind) (hL : 0 < L) {w : Nat} (hw : w ≤ 4) {R : Nat → Nat → Bool} (hR : ∀ a b, R a b = true → a < w ∧ b < w) {to : Nat → Int32} (hto : lk w R to) (holds : Nat → Int32) (k : Nat) :
    ∃ holds', f_X9_layHolds (nI L) (nI w) (bI 4 (fun a => decide (a < w) && k.testBit a)) (bI 4 (fun a => decide (a < w) && k.testBit (w + a))) signAt behind to holds = some holds' ∧ holds' 0 = bI 4 (fun a => decide (a < w) && vl g e R w k a) := by
  obtain ⟨holds', e1, e2⟩ := layHolds_e hf hw hR (wbit_in (n := k) (fun a => a)) (wbit_in (n := k) (fun a => w + a)) hto holds
  refine ⟨holds', e1, ?_⟩
  rw [e2 0 hL]
  unfold hw_
  refine bI_congr (fun a _ => ?_)
  by_cases ha : a < w
  · rw [decide_eq_true ha, Bool.true_and, Bool.true_and]
    exact hp_letters hR (wbit_eq (fun a => a)) (wbit_eq (fun a => w + a)) ha
  · rw [decide_eq_false ha, Bool.false_and, Bool.false_and]
def flG (w : Nat) (g : Nat → Int32) (e : Nat → Nat) (R : Nat → Nat → Bool) (o : Option (Int32 × Int32 × Int32 × (Nat → Int32))) : Prop :=
  (∃ p' q' holds', o = some (-1, p', q', holds') ∧ ∀ n, n < 2 ^ (2 * w) → val g e R w n = true) ∨
    (∃ n p' q' holds', o = some (nI n, p', q', holds') ∧ n < 2 ^ (2 * w) ∧ val g e R w n = false ∧ (∀ m, m < n → val g e R w m = true) ∧ holds' 0 = bI 4 (fun a => decide (a < w) && vl g e R w n a))
theorem two_w {w : Nat} (hw : w ≤ 4) : 2 ^ (2 * w) ≤ 256 := Nat.pow_le_pow_right (n := 2) (i := 2 * w) (j := 8) (by omega) (by omega)
theorem failing_e {L : Nat} {g : Nat → Int32} {e : Nat → Nat} {signAt behind : Nat → Int32} (hf : RMo L g e signAt behind) (hL : 0 < L) {w : Nat} (hw : w ≤ 4) {R : Nat → Nat → Bool} (hR : ∀ a b, R a b = true → a < w ∧ b < w) {to : Nat → Int32} (hto : lk w R to) (p q : Int32) (holds : Nat → Int32) :
    flG w g e R (f_X9_failing (nI L) (nI w) p q signAt behind to holds) := by
  unfold f_X9_failing
  have h8 := two_w hw
  have hk9 := pow_k w (by omega)
  rw [hk9.1, hk9.2]
  generalize hM : 2 ^ (2 * w) = M at h8
  refine k_runE (N := 1000) (flG w g e R) M
    (fun (k : Nat) (s : Int32 × Int32 × Int32 × (Nat → Int32)) => s.1 = nI k ∧ ∀ n, n < k → val g e R w n = true) (by omega) ⟨rfl, fun n h => absurd h (Nat.not_lt_zero n)⟩ ?_ ?_ ?_
  · intro rc k s hk hI
    obtain ⟨h1, h2⟩ := hI
    obtain ⟨holds', e1, e3⟩ := failOne_e hf hL hw hR hto s.2.2.2 k
    try dsimp only
    simp only [k_let]
    rw [h1, if_neg (nI_nge4 (by omega) (by omega) hk), layMarks_e hw (by rw [hM]; exact hk)]
    try dsimp only
    rw [e1, Option.bind_some, show (0 : Int32) = nI 0 from rfl, chk_e (show 0 < 16 by omega) (by omega), cl_e (show 0 < 2 ^ 31 by omega), nI_1, e3]
    by_cases h0 : val g e R w k = true
    · rw [if_pos ((full_iff hw _).mpr (val_iff.mp h0))]
      refine Or.inl ⟨_, ⟨rfl, fun n hn => ?_⟩, rfl⟩
      by_cases h5 : n = k
      · rw [h5]; exact h0
      · exact h2 n (by omega)
    · rw [if_neg (fun q => h0 (val_iff.mpr ((full_iff hw _).mp q)))]
      exact Or.inr ⟨_, rfl, Or.inr ⟨k, _, _, _, rfl, by rw [hM]; exact hk, Bool.eq_false_iff.mpr h0, h2, e3⟩⟩
  · intro rc s hI
    try dsimp only
    rw [hI.1, if_pos (nI_ge4 (by omega) (by omega) (Nat.le_refl _))]
  · intro s hI
    exact Or.inl ⟨_, _, _, rfl, fun n hn => hI.2 n (by rw [hM] at hn; exact hn)⟩
theorem st_valid {k1 w1 A p q k2 w2 : Int32} {arr mk : Nat → Int32} (h : RF k1 w1 A p q k2 w2 arr mk) {L : Nat} {g : Nat → Int32} {e : Nat → Nat} {signs ends signAt behind : Nat → Int32} (hf : RFo L g e signs ends) (hf2 : RMo L g e signAt behind) (vp vq held : Nat → Int64) (m a b : Int32) (to holds : Nat → Int32) :
    ∃ r vp' vq' held' m' a' b' to' holds', f_X8_valid w1 A (nI L) signs ends vp vq held = some (r, vp', vq', held') ∧ f_X9_valid w2 (nI L) m a b arr mk signAt behind to holds = some (r, m', a', b', to', holds') := by
  obtain ⟨kk, w, R, P, Q, hk, ok, rfl, rfl, rfl, rfl, rfl, rfl, rfl, hb, hm⟩ := h
  have h4 := ok.1
  have h16 := hf.1.1
  unfold f_X9_valid f_X8_valid
  rw [hasFrame_e (w_lt ok.1), isFrame_e (w_lt ok.1), hasFormula_e h16, isFormula_e h16]
  by_cases hw : w = 0
  · rw [if_pos hw]; simp only [i00, if_true]
    exact ⟨_, _, _, _, _, _, _, _, _, rfl, rfl⟩
  · rw [if_neg hw]; simp only [i10, if_false]
    by_cases hL : L = 0
    · rw [if_pos hL]; simp only [i00, if_true]
      exact ⟨_, _, _, _, _, _, _, _, _, rfl, rfl⟩
    · rw [if_neg hL]; simp only [i10, if_false]
      unfold f_X9_validNow
      rw [layFrame_e ok.1 ok.2.1 ok.2.2.1 ok.2.2.2 hb hm, Option.bind_some]
      try dsimp only
      rcases isValid_e hf (show 0 < L by omega) ok.1 ok.2.1 vp vq held with ⟨vp', vq', held', e1, e2⟩ | ⟨vp', vq', held', e1, ⟨n, e2, e3⟩, -⟩
      · rcases failing_e hf2 (show 0 < L by omega) ok.1 ok.2.1 (rows_lk w R to) (bI 4 P) (bI 4 Q) holds with ⟨p', q', holds', e5, e6⟩ | ⟨n, p', q', holds', e5, e6, e7, e8, e9⟩
        · rw [e1, e5]
          exact ⟨_, _, _, _, _, _, _, _, _, rfl, rfl⟩
        · rw [e2 n e6] at e7; cases e7
      · rcases failing_e hf2 (show 0 < L by omega) ok.1 ok.2.1 (rows_lk w R to) (bI 4 P) (bI 4 Q) holds with ⟨p', q', holds', e5, e6⟩ | ⟨n', p', q', holds', e5, e6, e7, e8, e9⟩
        · rw [e6 n e2] at e3; cases e3
        · have hup := two_w ok.1
          rw [e1, e5, Option.bind_some, Option.bind_some]
          try dsimp only
          rw [if_neg (show ¬ nI n' = -1 from fun q => by
            have h9 := nI_pos (show n' < 2 ^ 31 by omega)
            rw [q] at h9
            exact h9 (by decide))]
          exact ⟨_, _, _, _, _, _, _, _, _, rfl, rfl⟩
