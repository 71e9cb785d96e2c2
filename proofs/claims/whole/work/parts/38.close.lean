/-! close, both ways: the least frame of the kind that has these arrows -/
def adz (kk : Nat) (R : Nat → Nat → Bool) (a : Nat) : Bool := decide (kk = 1) || (decide (kk = 2) || (decide (kk = 4) && !(List.range 4).any (R a)))
def rfx (kk k : Nat) (R : Nat → Nat → Bool) : Nat → Nat → Bool := fun a b => R a b || (decide (a < k) && (decide (a = b) && adz kk R a))
theorem rfx_s (kk k : Nat) (R : Nat → Nat → Bool) (a b : Nat) : rfx kk (k + 1) R a b = (rfx kk k R a b || (decide (a = k) && (decide (b = k) && adz kk R k))) := by
  unfold rfx
  by_cases h : a = k
  · subst h
    rw [decide_eq_true (show a < a + 1 by omega), decide_eq_false (show ¬ a < a by omega), decide_eq_true (rfl : a = a)]
    by_cases h2 : a = b
    · subst h2; simp
    · rw [decide_eq_false h2, decide_eq_false (fun q => h2 q.symm)]; simp
  · rw [decide_eq_false h]
    by_cases h2 : a < k
    · rw [decide_eq_true h2, decide_eq_true (show a < k + 1 by omega)]; simp
    · rw [decide_eq_false h2, decide_eq_false (show ¬ a < k + 1 by omega)]; simp
theorem join_one (S : Nat → Nat → Bool) {a c : Nat} (ha : a < 4) (hc : c < 4) : f_X2_join (eA S) (nI a) ((1 : Int32) <<< (nI c &&& 31)) = eA (fun x y => S x y || (decide (x = a) && decide (y = c))) := by
  rw [e_one hc, e_join _ _ ha]
/-- one pivot's round -/
def piv (c m : Nat) (D : Nat → Nat → Bool) : Nat → Nat → Bool := fun a b => D a b || (decide (a < m) && (D a c && D c b))
theorem piv_s {c m : Nat} (D : Nat → Nat → Bool) (a b : Nat) : piv c (m + 1) D a b = (piv c m D a b || (decide (a = m) && (D m c && D c b))) := by
  unfold piv
  by_cases h : a = m
  · subst h
    rw [decide_eq_true (show a < a + 1 by omega), decide_eq_false (show ¬ a < a by omega), decide_eq_true (rfl : a = a)]; simp
  · rw [decide_eq_false h]
    by_cases h2 : a < m
    · rw [decide_eq_true h2, decide_eq_true (show a < m + 1 by omega)]; simp
    · rw [decide_eq_false h2, decide_eq_false (show ¬ a < m + 1 by omega)]; simp
theorem piv_row (c m : Nat) (D : Nat → Nat → Bool) (b : Nat) : piv c m D c b = D c b := by
  unfold piv
  cases D c b <;> simp
theorem piv_col (c m : Nat) (D : Nat → Nat → Bool) (a : Nat) : piv c m D a c = D a c := by
  unfold piv
  cases D a c <;> simp
def trG (w : Nat) (R : Nat → Nat → Bool) (T : Nat → Nat → Bool) : Prop := (∀ a b, R a b = true → T a b = true) ∧ (∀ a b, T a b = true → a < w ∧ b < w) ∧ ∀ S : Nat → Nat → Bool, (∀ a b, R a b = true → S a b = true) → (∀ a b c, S a b = true → S b c = true → S a c = true) → ∀ a b, T a b = true → S a b = true
theorem transitive_e {w : Nat} (hw : w ≤ 4) {R : Nat → Nat → Bool} (hR : ∀ a b, R a b = true → a < w ∧ b < w) : ∃ T, f_X2_makeTransitive (nI w) (eA R) = some (eA T) ∧ trG w R T ∧ ∀ a b c, T a b = true → T b c = true → T a c = true := by
  unfold f_X2_makeTransitive
  refine k_runG (N := 1000) (fun (o : Option Int32) => ∃ T, o = some (eA T) ∧ trG w R T ∧ ∀ a b c, T a b = true → T b c = true → T a c = true) w (fun (k : Nat) (s : Int32 × Int32) => s.1 = nI k ∧ ∃ D, s.2 = eA D ∧ trG w R D ∧ ∀ a b c, c < k → D a c = true → D c b = true → D a b = true) (by omega) ⟨rfl, R, rfl, ⟨fun _ _ h => h, hR, fun S h _ a b hab => h a b hab⟩, fun a b c h => absurd h (Nat.not_lt_zero c)⟩ ?_ ?_ ?_
  · intro rc k s hk hI
    obtain ⟨h1, D, h2, hD, h3⟩ := hI
    try dsimp only
    rw [h1, h2, if_neg (nI_nge4 (by omega) (by omega) hk)]
    refine k_runG (N := 1000) (a0 := (0, eA D)) (fun (o : Option Int32) => ∃ a', (a'.1 = nI (k + 1) ∧ ∃ D', a'.2 = eA D' ∧ trG w R D' ∧ ∀ a b c, c < k + 1 → D' a c = true → D' c b = true → D' a b = true) ∧ o = rc a') w (fun (m : Nat) (u : Int32 × Int32) => u.1 = nI m ∧ u.2 = eA (piv k m D)) (by omega) ⟨rfl, eA_congr (fun a b _ _ => by unfold piv; simp)⟩ ?_ ?_ ?_
    · intro rc2 m u hm hI2
      obtain ⟨g1, g2⟩ := hI2
      refine ⟨(nI (m + 1), eA (piv k (m + 1) D)), ⟨rfl, rfl⟩, ?_⟩
      try dsimp only
      rw [g1, g2, if_neg (nI_nge4 (by omega) (by omega) hm), has_e _ (show m < 4 by omega) (show k < 4 by omega), piv_col, nI_1]
      cases hd : D m k
      · rw [if_neg (show ¬ false = true by decide), if_pos rfl]
        congr 2
        refine eA_congr (fun a b _ _ => ?_)
        rw [piv_s, hd]; simp
      · rw [if_pos rfl, if_neg (by decide), row_e _ (show k < 4 by omega), e_join _ _ (show m < 4 by omega)]
        congr 2
        refine eA_congr (fun a b _ _ => ?_)
        rw [piv_s, hd, piv_row, Bool.true_and]
    · intro rc2 u hI2
      try dsimp only
      rw [hI2.1, if_pos (nI_ge4 (by omega) (by omega) (Nat.le_refl w))]
    · intro u hI2
      obtain ⟨g1, g2⟩ := hI2
      refine ⟨_, ⟨?_, piv k w D, ?_, ?_, ?_⟩, rfl⟩
      · try dsimp only
        rw [nI_1]
      · try dsimp only
        exact g2
      · refine ⟨fun a b h => by unfold piv; rw [hD.1 a b h]; rfl, fun a b h => ?_, fun S q1 q2 a b h => ?_⟩
        · unfold piv at h
          rw [Bool.or_eq_true, Bool.and_eq_true, Bool.and_eq_true] at h
          rcases h with h | ⟨_, h, h'⟩
          · exact hD.2.1 a b h
          · exact ⟨(hD.2.1 _ _ h).1, (hD.2.1 _ _ h').2⟩
        · unfold piv at h
          rw [Bool.or_eq_true, Bool.and_eq_true, Bool.and_eq_true] at h
          rcases h with h | ⟨_, h, h'⟩
          · exact hD.2.2 S q1 q2 a b h
          · exact q2 _ _ _ (hD.2.2 S q1 q2 _ _ h) (hD.2.2 S q1 q2 _ _ h')
      · have pe : ∀ a b, piv k w D a b = true ↔ D a b = true ∨ (D a k = true ∧ D k b = true) := fun a b => by
          unfold piv
          rw [Bool.or_eq_true, Bool.and_eq_true, Bool.and_eq_true, decide_eq_true_eq]
          constructor
          · rintro (h | ⟨_, h, h'⟩)
            · exact .inl h
            · exact .inr ⟨h, h'⟩
          · rintro (h | ⟨h, h'⟩)
            · exact .inl h
            · exact .inr ⟨(hD.2.1 _ _ h).1, h, h'⟩
        intro a b c hc q1 q2
        rw [pe] at q1 q2 ⊢
        by_cases hck : c = k
        · subst hck
          have z1 : D a c = true := by rcases q1 with q | q; exact q; exact q.1
          have z2 : D c b = true := by rcases q2 with q | q; exact q; exact q.2
          exact .inr ⟨z1, z2⟩
        · have hc2 : c < k := by omega
          rcases q1 with q1 | ⟨q1, q1'⟩
          · rcases q2 with q2 | ⟨q2, q2'⟩
            · exact .inl (h3 a b c hc2 q1 q2)
            · exact .inr ⟨h3 a k c hc2 q1 q2, q2'⟩
          · rcases q2 with q2 | ⟨q2, q2'⟩
            · exact .inr ⟨q1, h3 k b c hc2 q1' q2⟩
            · exact .inr ⟨q1, q2'⟩
  · intro rc s hI
    try dsimp only
    rw [hI.1, if_pos (nI_ge4 (by omega) (by omega) (Nat.le_refl w))]
  · intro s hI
    obtain ⟨h1, D, h2, hD, h3⟩ := hI
    exact ⟨D, by rw [h2], hD, fun a b c q1 q2 => h3 a c b (hD.2.1 _ _ q1).2 q1 q2⟩
theorem symmetric_e {w : Nat} (hw : w ≤ 4) {R : Nat → Nat → Bool} (hR : ∀ a b, R a b = true → a < w ∧ b < w) : f_X2_makeSymmetric (nI w) (eA R) = some (eA (fun a b => R a b || R b a)) := by
  unfold f_X2_makeSymmetric
  refine k_runG (N := 1000) (fun (o : Option Int32) => o = some (eA (fun a b => R a b || R b a))) w (fun (k : Nat) (s : Int32 × Int32) => s.1 = nI k ∧ ∃ D, s.2 = eA D ∧ (∀ a b, R a b = true → D a b = true) ∧ (∀ a b, D a b = true → R a b = true ∨ R b a = true) ∧ ∀ a b, a < k → D a b = true → D b a = true) (by omega) ⟨rfl, R, rfl, fun _ _ h => h, fun _ _ h => .inl h, fun a b h => absurd h (Nat.not_lt_zero a)⟩ ?_ ?_ ?_
  · intro rc k s hk hI
    obtain ⟨h1, D, h2, d1, d2, d3⟩ := hI
    try dsimp only
    rw [h1, h2, if_neg (nI_nge4 (by omega) (by omega) hk)]
    refine k_runG (N := 1000) (a0 := (0, eA D)) (fun (o : Option Int32) => ∃ a', (a'.1 = nI (k + 1) ∧ ∃ D', a'.2 = eA D' ∧ (∀ a b, R a b = true → D' a b = true) ∧ (∀ a b, D' a b = true → R a b = true ∨ R b a = true) ∧ ∀ a b, a < k + 1 → D' a b = true → D' b a = true) ∧ o = rc a') w (fun (m : Nat) (u : Int32 × Int32) => u.1 = nI m ∧ ∃ D', u.2 = eA D' ∧ (∀ a b, R a b = true → D' a b = true) ∧ (∀ a b, D' a b = true → R a b = true ∨ R b a = true) ∧ (∀ a b, a < k → D' a b = true → D' b a = true) ∧ ∀ b, b < m → D' k b = true → D' b k = true) (by omega) ⟨rfl, D, rfl, d1, d2, d3, fun b h => absurd h (Nat.not_lt_zero b)⟩ ?_ ?_ ?_
    · intro rc2 m u hm hI2
      obtain ⟨g1, D', g2, e1, e2, e3, e4⟩ := hI2
      try dsimp only
      rw [g1, g2, if_neg (nI_nge4 (by omega) (by omega) hm), has_e _ (show k < 4 by omega) (show m < 4 by omega), nI_1]
      cases hd : D' k m
      · rw [if_neg (show ¬ false = true by decide), if_pos rfl]
        refine ⟨_, ⟨rfl, D', rfl, e1, e2, e3, fun b hb h => ?_⟩, rfl⟩
        by_cases q : b = m
        · rw [q, hd] at h; cases h
        · exact e4 b (by omega) h
      · rw [if_pos rfl, if_neg (by decide), join_one _ (show m < 4 by omega) (show k < 4 by omega)]
        have pe : ∀ a b, (D' a b || (decide (a = m) && decide (b = k))) = true ↔ D' a b = true ∨ (a = m ∧ b = k) := fun a b => by
          rw [Bool.or_eq_true, Bool.and_eq_true, decide_eq_true_eq, decide_eq_true_eq]
        refine ⟨_, ⟨rfl, _, rfl, fun a b h => (pe a b).mpr (.inl (e1 a b h)), fun a b h => ?_, fun a b ha h => ?_, fun b hb h => ?_⟩, rfl⟩
        · rcases (pe a b).mp h with h | ⟨rfl, rfl⟩
          · exact e2 a b h
          · exact (e2 _ _ hd).symm
        · rcases (pe a b).mp h with h | ⟨rfl, rfl⟩
          · exact (pe b a).mpr (.inl (e3 a b ha h))
          · exact (pe _ _).mpr (.inl hd)
        · rcases (pe k b).mp h with h | ⟨rfl, rfl⟩
          · by_cases q : b = m
            · exact (pe _ _).mpr (.inr ⟨q, rfl⟩)
            · exact (pe _ _).mpr (.inl (e4 b (by omega) h))
          · exact (pe _ _).mpr (.inr ⟨rfl, rfl⟩)
    · intro rc2 u hI2
      try dsimp only
      rw [hI2.1, if_pos (nI_ge4 (by omega) (by omega) (Nat.le_refl w))]
    · intro u hI2
      obtain ⟨g1, D', g2, e1, e2, e3, e4⟩ := hI2
      refine ⟨_, ⟨?_, D', ?_, e1, e2, fun a b ha h => ?_⟩, rfl⟩
      · try dsimp only
        rw [nI_1]
      · try dsimp only
        exact g2
      · by_cases q : a = k
        · subst q
          have hb : b < w := by
            rcases e2 _ _ h with z | z
            · exact (hR _ _ z).2
            · exact (hR _ _ z).1
          exact e4 b hb h
        · exact e3 a b (by omega) h
  · intro rc s hI
    try dsimp only
    rw [hI.1, if_pos (nI_ge4 (by omega) (by omega) (Nat.le_refl w))]
  · intro s hI
    obtain ⟨h1, D, h2, d1, d2, d3⟩ := hI
    rw [h2]
    congr 1
    refine eA_congr (fun a b _ _ => ?_)
    rw [Bool.eq_iff_iff, Bool.or_eq_true]
    constructor
    · exact d2 a b
    · rintro (h | h)
      · exact d1 a b h
      · exact d3 b a (hR _ _ h).1 (d1 b a h)
/-- what the reference would add -/
def wn (kk w : Nat) (S : Nat → Nat → Bool) (a b : Nat) : Bool := if kk = 1 then decide (a = b) else if kk = 2 then decide (a = b) || (List.range w).any (fun c => S a c && S c b) else if kk = 3 then S b a else if kk = 4 then decide (a = b) && !(List.range w).any (S a) else false
/-- the class's end is what the reference's turns go to -/
def clG (kk w : Nat) (R T : Nat → Nat → Bool) : Prop := (∀ a b, R a b = true → T a b = true) ∧ (∀ a b, T a b = true → a < w ∧ b < w) ∧
  (∀ S : Nat → Nat → Bool, (∀ a b, R a b = true → S a b = true) → (∀ a b, S a b = true → T a b = true) → ∀ a b, a < w → b < w → wn kk w S a b = true → T a b = true) ∧
  (∀ S : Nat → Nat → Bool, (∀ a b, R a b = true → S a b = true) → (∀ a b, S a b = true → T a b = true) → (∀ a b, a < w → b < w → S a b = false → wn kk w S a b = false) → ∀ a b, T a b = true → S a b = true)
theorem rfx_in {kk w : Nat} {R : Nat → Nat → Bool} (hR : ∀ a b, R a b = true → a < w ∧ b < w) : ∀ a b, rfx kk w R a b = true → a < w ∧ b < w := fun a b h => by
  unfold rfx at h
  rw [Bool.or_eq_true, Bool.and_eq_true, Bool.and_eq_true, decide_eq_true_eq, decide_eq_true_eq] at h
  rcases h with h | ⟨h1, h2, _⟩
  · exact hR a b h
  · exact ⟨h1, by omega⟩
theorem rfx_no {kk : Nat} (h : kk ≠ 1) (h2 : kk ≠ 2) (h4 : kk ≠ 4) (w : Nat) (R : Nat → Nat → Bool) (a b : Nat) : rfx kk w R a b = R a b := by
  unfold rfx adz
  rw [decide_eq_false h, decide_eq_false h2, decide_eq_false h4]
  simp
theorem any_i {w : Nat} {f : Nat → Bool} : (List.range w).any f = true ↔ ∃ c, c < w ∧ f c = true := by
  rw [List.any_eq_true]
  exact ⟨fun ⟨c, h1, h2⟩ => ⟨c, List.mem_range.mp h1, h2⟩, fun ⟨c, h1, h2⟩ => ⟨c, List.mem_range.mpr h1, h2⟩⟩
theorem not_t {b : Bool} (h : ¬ b = true) : b = false := Bool.eq_false_iff.mpr h
theorem makeFit_e {kk w : Nat} (hk : kk < 5) (hw : w ≤ 4) {R : Nat → Nat → Bool} (hR : ∀ a b, R a b = true → a < w ∧ b < w) : ∃ T, f_X2_makeFit (nI kk) (nI w) (eA R) = some (eA T) ∧ clG kk w R T := by
  unfold f_X2_makeFit
  refine k_runG (N := 1000) (fun (o : Option Int32) => ∃ T, o = some (eA T) ∧ clG kk w R T) w (fun (k : Nat) (s : Int32 × Int32) => s.1 = nI k ∧ s.2 = eA (rfx kk k R)) (by omega) ⟨rfl, eA_congr (fun a b _ _ => by unfold rfx; simp)⟩ ?_ ?_ ?_
  · intro rc k s hk1 hI
    obtain ⟨h1, h2⟩ := hI
    refine ⟨(nI (k + 1), eA (rfx kk (k + 1) R)), ⟨rfl, rfl⟩, ?_⟩
    try dsimp only
    rw [h1, h2, if_neg (nI_nge4 (by omega) (by omega) hk1), join_one _ (show k < 4 by omega) (show k < 4 by omega), row_e _ (show k < 4 by omega), nI_1]
    have put : adz kk R k = true → eA (fun x y => rfx kk k R x y || (decide (x = k) && decide (y = k))) = eA (rfx kk (k + 1) R) := fun h => eA_congr (fun a b _ _ => by rw [rfx_s, h, Bool.and_true])
    have not : adz kk R k = false → eA (rfx kk k R) = eA (rfx kk (k + 1) R) := fun h => eA_congr (fun a b _ _ => by rw [rfx_s, h]; simp)
    have hrow : ∀ b, rfx kk k R k b = R k b := fun b => by unfold rfx; rw [decide_eq_false (show ¬ k < k by omega)]; simp
    rcases (by omega : kk = 0 ∨ kk = 1 ∨ kk = 2 ∨ kk = 3 ∨ kk = 4) with rfl | rfl | rfl | rfl | rfl
    · rw [if_neg (by decide), if_neg (by decide), if_neg (by decide), not rfl]
    · rw [if_pos (show nI 1 = 1 from rfl), put rfl]
    · rw [if_neg (by decide), if_pos (show nI 2 = 2 from rfl), put rfl]
    · rw [if_neg (by decide), if_neg (by decide), if_neg (by decide), not rfl]
    · rw [if_neg (by decide), if_neg (by decide), if_pos (show nI 4 = 4 from rfl)]
      have e : (List.range 4).any (rfx 4 k R k) = (List.range 4).any (R k) := any4_congr hrow
      by_cases h0 : bI 4 (rfx 4 k R k) = 0
      · rw [if_pos h0, put (by
          have := (bI4_0 _).mp h0
          rw [e] at this
          unfold adz
          rw [this]
          rfl)]
      · rw [if_neg h0, not (by
          cases h5 : (List.range 4).any (R k)
          · exact absurd ((bI4_0 _).mpr (by rw [e]; exact h5)) h0
          · unfold adz
            rw [h5]
            rfl)]
  · intro rc s hI
    try dsimp only
    rw [hI.1, if_pos (nI_ge4 (by omega) (by omega) (Nat.le_refl w))]
  · intro s hI
    obtain ⟨h1, h2⟩ := hI
    try dsimp only
    rw [h2]
    have hin := rfx_in (kk := kk) hR
    have hsub : ∀ a b, R a b = true → rfx kk w R a b = true := fun a b h => by unfold rfx; rw [h]; rfl
    rcases (by omega : kk = 0 ∨ kk = 1 ∨ kk = 2 ∨ kk = 3 ∨ kk = 4) with rfl | rfl | rfl | rfl | rfl
    · rw [if_neg (by decide), Option.bind_some, if_neg (by decide)]
      have e := rfx_no (kk := 0) (by omega) (by omega) (by omega) w R
      refine ⟨_, rfl, hsub, hin, fun S s1 s2 a b ha hb h => ?_, fun S s1 s2 s3 a b h => ?_⟩
      · unfold wn at h
        rw [if_neg (by omega), if_neg (by omega), if_neg (by omega), if_neg (by omega)] at h
        cases h
      · rw [e] at h; exact s1 a b h
    · rw [if_neg (by decide), Option.bind_some, if_neg (by decide)]
      refine ⟨_, rfl, hsub, hin, fun S s1 s2 a b ha hb h => ?_, fun S s1 s2 s3 a b h => ?_⟩
      · unfold wn at h
        rw [if_pos rfl, decide_eq_true_eq] at h
        unfold rfx adz
        rw [decide_eq_true ha, decide_eq_true h]
        simp
      · have hb := hin a b h
        unfold rfx at h
        rw [Bool.or_eq_true, Bool.and_eq_true, Bool.and_eq_true, decide_eq_true_eq, decide_eq_true_eq] at h
        rcases h with h | ⟨_, h, _⟩
        · exact s1 a b h
        · cases hs : S a b
          · have := s3 a b hb.1 hb.2 hs
            unfold wn at this
            rw [if_pos rfl, decide_eq_true h] at this
            cases this
          · rfl
    · obtain ⟨T, e1, e2, e3⟩ := transitive_e hw hin
      rw [if_pos (show nI 2 = 2 from rfl), e1, Option.bind_some, Option.bind_some, if_neg (by decide)]
      have hrefl : ∀ a, a < w → rfx 2 w R a a = true := fun a ha => by
        unfold rfx adz
        rw [decide_eq_true ha]; simp
      refine ⟨T, rfl, fun a b h => e2.1 a b (hsub a b h), e2.2.1, fun S s1 s2 a b ha hb h => ?_, fun S s1 s2 s3 a b h => ?_⟩
      · unfold wn at h
        rw [if_neg (by omega), if_pos rfl, Bool.or_eq_true, decide_eq_true_eq, any_i] at h
        rcases h with rfl | ⟨c, hc, h⟩
        · exact e2.1 _ _ (hrefl a ha)
        · rw [Bool.and_eq_true] at h
          exact e3 a c b (s2 _ _ h.1) (s2 _ _ h.2)
      · have s3' : ∀ a b, a < w → b < w → (a = b ∨ ∃ c, c < w ∧ S a c = true ∧ S c b = true) → S a b = true := fun a b ha hb hor => by
          cases hs : S a b
          · have := s3 a b ha hb hs
            unfold wn at this
            rw [if_neg (by omega), if_pos rfl, Bool.or_eq_false_iff] at this
            rcases hor with q | ⟨c, hc, q1, q2⟩
            · have h5 := this.1
              rw [decide_eq_true q] at h5; cases h5
            · have h5 := this.2
              have h6 : (List.range w).any (fun c => S a c && S c b) = true := any_i.mpr ⟨c, hc, by rw [q1, q2]; rfl⟩
              rw [h6] at h5; cases h5
          · rfl
        refine e2.2.2 S (fun a b h => ?_) (fun a b c q1 q2 => ?_) a b h
        · have hb := hin a b h
          unfold rfx at h
          rw [Bool.or_eq_true, Bool.and_eq_true, Bool.and_eq_true, decide_eq_true_eq, decide_eq_true_eq] at h
          rcases h with h | ⟨_, h, _⟩
          · exact s1 a b h
          · exact s3' a b hb.1 hb.2 (.inl h)
        · have z1 := e2.2.1 _ _ (s2 _ _ q1)
          have z2 := e2.2.1 _ _ (s2 _ _ q2)
          exact s3' a c z1.1 z2.2 (.inr ⟨b, z1.2, q1, q2⟩)
    · rw [if_neg (by decide), Option.bind_some, if_pos (show nI 3 = 3 from rfl), symmetric_e hw hin, Option.bind_some]
      have e := rfx_no (kk := 3) (by omega) (by omega) (by omega) w R
      refine ⟨_, rfl, fun a b h => by
        dsimp only
        rw [hsub a b h]; rfl, fun a b h => ?_, fun S s1 s2 a b ha hb h => ?_, fun S s1 s2 s3 a b h => ?_⟩
      · dsimp only at h
        rw [Bool.or_eq_true] at h
        rcases h with h | h
        · exact hin a b h
        · exact (hin b a h).symm
      · unfold wn at h
        rw [if_neg (by omega), if_neg (by omega), if_pos rfl] at h
        have := s2 _ _ h
        dsimp only at this ⊢
        rw [Bool.or_comm]
        exact this
      · dsimp only at h
        rw [e, e, Bool.or_eq_true] at h
        rcases h with h | h
        · exact s1 a b h
        · cases hs : S a b
          · have := s3 a b (hR b a h).2 (hR b a h).1 hs
            unfold wn at this
            rw [if_neg (by omega), if_neg (by omega), if_pos rfl, s1 b a h] at this
            cases this
          · rfl
    · rw [if_neg (by decide), Option.bind_some, if_neg (by decide)]
      have he : ∀ a, adz 4 R a = !(List.range 4).any (R a) := fun a => by
        unfold adz; simp
      refine ⟨_, rfl, hsub, hin, fun S s1 s2 a b ha hb h => ?_, fun S s1 s2 s3 a b h => ?_⟩
      · unfold wn at h
        rw [if_neg (by omega), if_neg (by omega), if_neg (by omega), if_pos rfl, Bool.and_eq_true, decide_eq_true_eq] at h
        obtain ⟨h, h'⟩ := h
        have hem : (List.range 4).any (R a) = false := by
          cases h5 : (List.range 4).any (R a)
          · rfl
          · obtain ⟨c, hc, h6⟩ := any_i.mp h5
            have h7 : (List.range w).any (S a) = true := any_i.mpr ⟨c, (hR _ _ h6).2, s1 _ _ h6⟩
            rw [h7] at h'; cases h'
        unfold rfx
        rw [he, hem, decide_eq_true ha, decide_eq_true h]
        simp
      · have hb := hin a b h
        have h0 := h
        unfold rfx at h
        rw [Bool.or_eq_true, Bool.and_eq_true, Bool.and_eq_true, decide_eq_true_eq, decide_eq_true_eq, he] at h
        rcases h with h | ⟨_, h, h'⟩
        · exact s1 a b h
        · subst h
          have hem : ∀ c, R a c = false := fun c => by
            cases h5 : R a c
            · rfl
            · have h6 : (List.range 4).any (R a) = true := any_i.mpr ⟨c, by have := (hR _ _ h5).2; omega, h5⟩
              rw [h6] at h'; cases h'
          cases hs : S a a
          · have := s3 a a hb.1 hb.1 hs
            unfold wn at this
            rw [if_neg (by omega), if_neg (by omega), if_neg (by omega), if_pos rfl, decide_eq_true rfl, Bool.true_and, Bool.not_eq_false'] at this
            obtain ⟨c, hc, h6⟩ := any_i.mp this
            have h7 := s2 _ _ h6
            unfold rfx at h7
            rw [hem c, Bool.false_or, Bool.and_eq_true, Bool.and_eq_true, decide_eq_true_eq, decide_eq_true_eq] at h7
            rw [← h7.2.1] at h6
            rw [h6] at hs; cases hs
          · rfl
