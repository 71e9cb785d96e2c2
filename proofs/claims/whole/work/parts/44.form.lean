/-! a formula's text, both ways -/
theorem k_sim {α β α' β' : Type} {b : (α → Option β) → (α → Option β) → α → Option β} {ex : α → Option β} {b' : (α' → Option β') → (α' → Option β') → α' → Option β'} {ex' : α' → Option β'} {N N' : Nat} {a0 : α} {a0' : α'} (T : Option β → Option β' → Prop) (n : Nat) (I : Nat → α → α' → Prop) (hN : n < N) (hN' : n + 1 < N') (h0 : I 0 a0 a0')
    (hs : ∀ (rc : α → Option β) (rc' : α' → Option β') (k : Nat) (a : α) (a' : α'), k < n → I k a a' → (∃ rc2, ∀ u, rc' u = b' ex' rc2 u) → (∃ c c', I (k + 1) c c' ∧ b ex rc a = rc c ∧ b' ex' rc' a' = rc' c') ∨ T (b ex rc a) (b' ex' rc' a'))
    (hx : ∀ (rc : α → Option β) (rc' : α' → Option β') (a : α) (a' : α'), I n a a' → T (b ex rc a) (b' ex' rc' a')) : T (k_it b ex N a0) (k_it b' ex' N' a0') := by
  have key : ∀ (j k : Nat) (N N' : Nat) (a : α) (a' : α'), k + j = n → j < N → j + 1 < N' → I k a a' → T (k_it b ex N a) (k_it b' ex' N' a') := by
    intro j
    induction j with
    | zero =>
      intro k N N' a a' hk hN hN' hI
      obtain ⟨N, rfl⟩ : ∃ M, N = M + 1 := ⟨N - 1, by omega⟩
      obtain ⟨N', rfl⟩ : ∃ M, N' = M + 1 := ⟨N' - 1, by omega⟩
      have : k = n := by omega
      subst this
      exact hx _ _ a a' hI
    | succ j ih =>
      intro k N N' a a' hk hN hN' hI
      obtain ⟨N, rfl⟩ : ∃ M, N = M + 1 := ⟨N - 1, by omega⟩
      obtain ⟨N', rfl⟩ : ∃ M, N' = M + 1 := ⟨N' - 1, by omega⟩
      rcases hs (k_it b ex N) (k_it b' ex' N') k a a' (by omega) hI (by
        obtain ⟨N2, rfl⟩ : ∃ M, N' = M + 1 := ⟨N' - 1, by omega⟩
        exact ⟨k_it b' ex' N2, fun u => rfl⟩) with ⟨c, c', h1, h2, h3⟩ | h
      · rw [k_it_s, k_it_s, h2, h3]
        exact ih (k + 1) N N' c c' (by omega) (by omega) (by omega) h1
      · exact h
  exact key n 0 N N' a0 a0' (by omega) hN hN' h0
theorem at5_e {codes : Nat → Int32} {i : Nat} (hi : i < 66) : f_X5_at codes (nI i) = some (codes i) := by
  unfold f_X5_at
  rw [show f_X8_isBelow (nI i) 66 = 1 from below_e (n := 66) hi (by omega), chk_e hi (by omega), cl_e (show i < 2 ^ 31 by omega)]
  rfl
theorem oper_or (x : Int32) : (isS x ∧ f_X0_operands x = nI (ar x)) ∨ f_X0_operands x = -1 := by
  by_cases h : isS x
  · exact .inl ⟨h, oper_e h⟩
  · right
    unfold isS at h
    unfold f_X0_operands
    rw [if_neg (fun q => h (.inl q)), if_neg (fun q => h (.inr (.inl q))), if_neg (fun q => h (.inr (.inr (.inl q)))), if_neg (fun q => h (.inr (.inr (.inr (.inl q))))), if_neg (fun q => h (.inr (.inr (.inr (.inr (.inl q)))))), if_neg (fun q => h (.inr (.inr (.inr (.inr (.inr (.inl q))))))), if_neg (fun q => h (.inr (.inr (.inr (.inr (.inr (.inr (.inl q)))))))), if_neg (fun q => h (.inr (.inr (.inr (.inr (.inr (.inr (.inr q))))))))]
theorem ar_lt (c : Int32) : ar c < 3 := by
  unfold ar
  repeat (first | (split; omega) | split | omega)
/-- still due after the first i signs -/
def due (g : Nat → Int32) : Nat → Nat
  | 0 => 1
  | i + 1 => due g i - 1 + ar (g i)
/-- the first i signs can begin a formula -/
def okT (g : Nat → Int32) (i : Nat) : Prop := ∀ j, j < i → isS (g j) ∧ 0 < due g j ∧ j + 1 + due g (j + 1) ≤ 16
/-- what reading a text comes to: the same place; and, where all was read, what is due -/
def rfT (g : Nat → Int32) (l : Nat) (o : Option (Int32 × Int32 × Int32)) (o' : Option (Int32 × Int32)) : Prop :=
  (∃ i a b d, o = some (nI i, a, b) ∧ o' = some (nI i, d) ∧ i < l) ∨ (∃ a, o = some (nI l, a, nI (due g l)) ∧ o' = some (nI l, nI (due g l)) ∧ okT g l ∧ due g l ≤ 16)
theorem readF_e {l : Nat} (hl : l ≤ 66) {codes page : Nat → Int32} {g : Nat → Int32} (hc : ∀ i, i < l → codes i = g i ∧ page i = g i) (rd du w0 : Int32) : rfT g l (f_X6_firstFault_X1 rd du (nI l) codes) (f_X9_readFormula (nI l) w0 page) := by
  unfold f_X6_firstFault_X1 f_X9_readFormula
  simp only [k_let]
  rw [show f_X5_length (nI l) = nI l from rfl, show (f_X1_begin rd du).1 = 0 from rfl, show (f_X1_begin rd du).2 = 1 from rfl]
  refine k_sim (N := 1000) (N' := 1000) (rfT g l) l (fun (k : Nat) (s : Int32 × Int32 × Int32) (t : Int32 × Int32 × Int32) => s.1 = nI k ∧ s.2.1 = nI k ∧ s.2.2 = nI (due g k) ∧ t.1 = nI k ∧ t.2.1 = 1 ∧ t.2.2 = nI (due g k) ∧ okT g k ∧ due g k ≤ 16) (by omega) (by omega) ⟨rfl, rfl, rfl, rfl, rfl, rfl, fun j h => absurd h (Nat.not_lt_zero j), by show 1 ≤ 16; omega⟩ ?_ ?_
  · intro rc rc' k s t hk hI hrc
    obtain ⟨h1, h2, h3, h4, h5, h6, h7, h8⟩ := hI
    have hk16 : k ≤ 16 := by
      rcases Nat.eq_zero_or_pos k with q | q
      · omega
      · have := (h7 (k - 1) (by omega)).2.2
        omega
    try dsimp only
    rw [h1, h2, h3, h4, h5, h6, if_neg (nI_nge4 (by omega) (by omega) hk), if_neg (nI_nge4 (by omega) (by omega) hk), at5_e (show k < 66 by omega), Option.bind_some, if_neg (show ¬ (1 : Int32) = 0 by decide), chk_e (show k < 66 by omega) (by omega), cl_e (show k < 2 ^ 31 by omega), (hc k hk).1, (hc k hk).2, parts_e]
    have hfail : ∀ a b d : Int32, rfT g l (some (nI k, a, b)) (rc' (nI k, 0, d)) := fun a b d => by
      obtain ⟨rc2, hrc2⟩ := hrc
      rw [hrc2]
      try dsimp only
      rw [if_neg (nI_nge4 (by omega) (by omega) hk), if_pos rfl]
      exact .inl ⟨k, a, b, d, rfl, rfl, hk⟩
    unfold f_X1_reads
    rcases oper_or (g k) with ⟨s1, s2⟩ | s2
    · have har := ar_lt (g k)
      rw [s2, if_neg (show ¬ nI (ar (g k)) = -1 from nm1 (by omega)), if_neg (show ¬ nI (ar (g k)) = -1 from nm1 (by omega))]
      by_cases hd : due g k = 0
      · rw [hd, if_pos (show nI 0 = 0 from rfl), if_pos (show nI 0 ≤ 0 by decide), Option.bind_some, if_pos rfl, if_pos rfl]
        exact .inr (hfail _ _ _)
      · rw [if_neg (nI_ne0 (by omega) (by omega)), if_neg (nI_nle (by omega) (by omega)), nI_1, nI_add, nI_add, show nI (due g k) - 1 = nI (due g k - 1) by rw [show (1 : Int32) = nI 1 from rfl, pk_sub (show 1 ≤ due g k by omega)], nI_add, nI_add]
        by_cases h16 : k + due g k + ar (g k) ≤ 16
        · rw [if_pos (show nI (k + 1 + (due g k - 1 + ar (g k))) ≤ 16 from (nI_leI (b := 16) (by omega) (by omega)).mpr (by omega)), if_neg (show ¬ (16 : Int32) < nI (k + due g k + ar (g k)) from fun q => by have := (nI_ltI (a := 16) (by omega) (by omega)).mp q; omega), Option.bind_some, if_neg (show ¬ (1 : Int32) = 0 by decide), if_neg (show ¬ (1 : Int32) = 0 by decide)]
          refine .inl ⟨_, _, ⟨rfl, rfl, rfl, rfl, rfl, ?_, fun j hj => ?_, ?_⟩, rfl, rfl⟩
          · try dsimp only
            have e1 : nI (ar (g k)) - 1 = nI (ar (g k)) + -1 := by rw [dn_2]
            show nI (due g k) + (nI (ar (g k)) - 1) = nI (due g k - 1 + ar (g k))
            rw [e1, ← Int32.add_assoc, nI_add, dn_2, show due g k + ar (g k) = (due g k - 1 + ar (g k)) + 1 by omega, dn_1]
          · by_cases q : j = k
            · rw [q]
              exact ⟨s1, by omega, by show k + 1 + (due g k - 1 + ar (g k)) ≤ 16; omega⟩
            · exact h7 j (by omega)
          · show due g k - 1 + ar (g k) ≤ 16
            omega
        · rw [if_neg (show ¬ nI (k + 1 + (due g k - 1 + ar (g k))) ≤ 16 from fun q => by have := (nI_leI (b := 16) (by omega) (by omega)).mp q; omega), if_pos (show (16 : Int32) < nI (k + due g k + ar (g k)) from (nI_ltI (a := 16) (by omega) (by omega)).mpr (by omega)), Option.bind_some, if_pos rfl, if_pos rfl]
          exact .inr (hfail _ _ _)
    · rw [s2, if_pos rfl, if_pos rfl, if_pos rfl]
      have e0 : (if nI (due g k) ≤ 0 then some 0 else some 0 : Option Int32) = some 0 := by split <;> rfl
      rw [e0, Option.bind_some, if_pos rfl]
      exact .inr (hfail _ _ _)
  · intro rc rc' s t hI
    obtain ⟨h1, h2, h3, h4, h5, h6, h7, h8⟩ := hI
    try dsimp only
    rw [h1, h2, h3, h4, h5, h6, if_pos (nI_ge4 (by omega) (by omega) (Nat.le_refl l)), if_pos (nI_ge4 (by omega) (by omega) (Nat.le_refl l))]
    exact .inr ⟨_, rfl, rfl, h7, h8⟩
