/-! observations, both ways -/
def cld (k a : Nat) : Bool := decide (f_X9_could (nI k) (nI a) = 1)
theorem cld_k : ∀ a, a < 4 → k_kinds a = bI 5 (fun k => cld k a) ∧ ∀ k, k < 5 → f_X9_could (nI k) (nI a) = if cld k a then 1 else 0 := by decide +kernel
/-- which kinds are left -/
def lef (n : Nat) (wh : Nat → Nat) (cn : Nat → Bool) (k : Nat) : Bool := (List.range n).all (fun i => cld k (wh i) == cn i)
def ROb (num poss seen : Int32) (what can : Nat → Int32) : Prop := ∃ n wh cn, n ≤ 6 ∧ num = nI n ∧ seen = nI n ∧ (∀ i, i < n → wh i < 4 ∧ what i = nI (wh i) ∧ can i = bi (cn i)) ∧ poss = bI 5 (lef n wh cn)
theorem kindsWith_e {a : Nat} (ha : a < 4) : f_X4_kindsWith (nI a) = some (bI 5 (fun k => cld k a)) := by
  unfold f_X4_kindsWith
  rw [show f_X8_isBelow (nI a) 4 = 1 from below_e (n := 4) ha (by omega), chk_e ha (by omega), cl_e (show a < 2 ^ 31 by omega), (cld_k a ha).1]
  rfl
theorem lef_congr {n : Nat} {wh wh' : Nat → Nat} {cn cn' : Nat → Bool} (h : ∀ i, i < n → wh i = wh' i ∧ cn i = cn' i) (k : Nat) : lef n wh cn k = lef n wh' cn' k := by
  unfold lef
  rw [Bool.eq_iff_iff, List.all_eq_true, List.all_eq_true]
  constructor
  · intro q i hi
    have := q i hi
    rw [(h i (List.mem_range.mp hi)).1, (h i (List.mem_range.mp hi)).2] at this
    exact this
  · intro q i hi
    have := q i hi
    rw [(h i (List.mem_range.mp hi)).1, (h i (List.mem_range.mp hi)).2]
    exact this
theorem note_e {n a : Nat} (ha : a < 4) (f : Nat → Bool) (v : Bool) : f_X4_note (nI n) (bI 5 f) (nI a) (bi v) = some (nI (n + 1), bI 5 (fun k => f k && (cld k a == v))) := by
  unfold f_X4_note
  rw [kindsWith_e ha, Option.bind_some, Option.bind_some, nI_1]
  cases v
  · rw [if_pos (show bi false = 0 from rfl), bI_andnot (by omega)]
    congr 2
    exact bI_congr (fun k _ => by cases f k <;> cases cld k a <;> rfl)
  · rw [if_neg (show ¬ bi true = 0 by decide), bI_and (by omega)]
    congr 2
    exact bI_congr (fun k _ => by cases f k <;> cases cld k a <;> rfl)
theorem lt6_e {c : Nat} (h : c ≤ 6) : (nI c < 6 ↔ c ≠ 6) ∧ (nI c = 6 ↔ c = 6) := by
  constructor
  · rw [show (6 : Int32) = nI 6 from rfl, nI_ltI (by omega) (by omega)]; omega
  · rw [show (6 : Int32) = nI 6 from rfl, nI_eq (by omega) (by omega)]
theorem st_see {w : Nat} (hw : w < 2 ^ 31) {num poss seen : Int32} {what can : Nat → Int32} (h : ROb num poss seen what can) (x : Int32) (v : Bool) : ∃ r num' poss' seen' what' can', f_X8_see (nI w) num poss x (bi v) = some (r, num', poss') ∧ f_X9_see (nI w) seen what can x (bi v) = some (r, seen', what', can') ∧ ROb num' poss' seen' what' can' := by
  have h0 := h
  obtain ⟨n, wh, cn, hn, rfl, rfl, hi, rfl⟩ := h
  unfold f_X9_see f_X8_see
  rw [hasFrame_e hw, isFrame_e hw]
  rcases idx_k x 4 3 (by omega) (by decide) with ⟨j, g1, rfl, g2, g3⟩ | ⟨g2, g3⟩
  · simp only [show f_X8_isBelow (nI j) 4 = 1 from g2, g3, i10, if_false]
    by_cases hw : w = 0
    · rw [if_pos hw]; simp only [i00, if_true]
      exact ⟨_, _, _, _, _, _, rfl, rfl, h0⟩
    · rw [if_neg hw]; simp only [i10, if_false]
      by_cases h6 : n = 6
      · rw [if_neg (fun q => (lt6_e hn).1.mp q h6), if_pos ((lt6_e hn).2.mpr h6)]
        exact ⟨_, _, _, _, _, _, rfl, rfl, h0⟩
      · rw [if_pos ((lt6_e hn).1.mpr h6), if_neg (fun q => h6 ((lt6_e hn).2.mp q)), note_e g1, Option.bind_some, chk_e (show n < 6 by omega) (by omega), chk_e (show n < 6 by omega) (by omega), cl_e (show n < 2 ^ 31 by omega), nI_1, nar_bi]
        refine ⟨_, _, _, _, _, _, rfl, rfl, n + 1, (fun i => if i = n then j else wh i), (fun i => if i = n then v else cn i), by omega, rfl, rfl, fun i hi2 => ?_, bI_congr (fun k _ => ?_)⟩
        · dsimp only
          by_cases q : i = n
          · rw [if_pos q, if_pos q, q, pk_us, pk_us]
            exact ⟨g1, rfl, rfl⟩
          · rw [if_neg q, if_neg q, pk_un q, pk_un q]
            exact hi i (by omega)
        · unfold lef
          rw [all_s]
          dsimp only
          rw [if_pos rfl, if_pos rfl]
          refine congrArg (· && (cld k j == v)) ?_
          exact lef_congr (fun i hi => by rw [if_neg (show ¬ i = n by omega), if_neg (show ¬ i = n by omega)]; exact ⟨rfl, rfl⟩) k
  · simp only [show f_X8_isBelow x 4 = 0 from g2, g3, i00, if_true]
    exact ⟨_, _, _, _, _, _, rfl, rfl, h0⟩
theorem ROb_0 (what can : Nat → Int32) : ROb 0 31 0 what can := ⟨0, fun _ => 0, fun _ => false, by omega, rfl, rfl, fun i h => absurd h (Nat.not_lt_zero i), by decide +kernel⟩
theorem st_forget {num poss seen : Int32} {what can : Nat → Int32} (h : ROb num poss seen what can) : ∃ r num' poss' seen', f_X8_forget num poss = (r, num', poss') ∧ f_X9_forget seen = (r, seen') ∧ ROb num' poss' seen' what can := by
  obtain ⟨n, wh, cn, hn, rfl, rfl, hi, rfl⟩ := h
  exact ⟨_, _, _, _, rfl, rfl, ROb_0 what can⟩
theorem acc5 (f : Nat → Bool) {k : Nat} (hk : k < 5) : bI 5 (fun a => decide (a < k) && f a) ||| (if f k then (1 : Int32) <<< (nI k &&& 31) else 0) = bI 5 (fun a => decide (a < k + 1) && f a) := by
  have e1 : ∀ k, k < 5 → (1 : Int32) <<< (nI k &&& 31) = bI 5 (fun y => decide (y = k)) := by decide +kernel
  have e : (if f k then (1 : Int32) <<< (nI k &&& 31) else 0) = bI 5 (fun y => decide (y = k) && f k) := by
    cases f k
    · exact (bI_0 (n := 5) (by omega)).symm.trans (bI_congr (fun i _ => by simp))
    · exact (e1 k hk).trans (bI_congr (fun i _ => by simp))
  rw [e, bI_or (by omega)]
  refine bI_congr (fun i hi => ?_)
  try dsimp only
  by_cases g : i = k
  · subst g
    rw [decide_eq_false (show ¬ i < i by omega), decide_eq_true (show i < i + 1 by omega), decide_eq_true rfl]
    rfl
  · by_cases g2 : i < k
    · rw [decide_eq_true g2, decide_eq_true (show i < k + 1 by omega), decide_eq_false g]
      simp
    · rw [decide_eq_false g2, decide_eq_false (show ¬ i < k + 1 by omega), decide_eq_false g]
      rfl
theorem sortsNow_e {n : Nat} (hn : n ≤ 6) {wh : Nat → Nat} {cn : Nat → Bool} {what can : Nat → Int32} (h : ∀ i, i < n → wh i < 4 ∧ what i = nI (wh i) ∧ can i = bi (cn i)) : f_X9_sortsNow (nI n) what can = some (bI 5 (lef n wh cn)) := by
  unfold f_X9_sortsNow
  refine k_runG (N := 1000) (fun (o : Option Int32) => o = some (bI 5 (lef n wh cn))) 5 (fun (k : Nat) (s : Int32 × Int32) => s.2 = nI k ∧ s.1 = bI 5 (fun a => decide (a < k) && lef n wh cn a)) (by omega) ⟨rfl, (bI_0 (n := 5) (by omega)).symm.trans (bI_congr (fun i _ => by simp))⟩ ?_ ?_ ?_
  · intro rc k s hk hI
    obtain ⟨h1, h2⟩ := hI
    try dsimp only
    rw [h1, h2, if_neg (show ¬ (4 : Int32) < nI k from fun q => by have := (nI_ltI (a := 4) (by omega) (by omega)).mp q; omega)]
    refine k_runG (N := 1000) (a0 := (1, 0)) (fun (o : Option Int32) => ∃ a', (a'.2 = nI (k + 1) ∧ a'.1 = bI 5 (fun a => decide (a < k + 1) && lef n wh cn a)) ∧ o = rc a') n (fun (m : Nat) (u : Int32 × Int32) => u.2 = nI m ∧ u.1 = if (List.range m).all (fun i => cld k (wh i) == cn i) then 1 else 0) (by omega) ⟨rfl, rfl⟩ ?_ ?_ ?_
    · intro rc2 m u hm hI2
      obtain ⟨g1, g2⟩ := hI2
      obtain ⟨t1, t2, t3⟩ := h m hm
      refine ⟨(if (List.range (m + 1)).all (fun i => cld k (wh i) == cn i) then 1 else 0, nI (m + 1)), ⟨rfl, rfl⟩, ?_⟩
      try dsimp only
      rw [g1, g2, if_neg (nI_nge4 (by omega) (by omega) hm), chk_e (show m < 6 by omega) (by omega), chk_e (show m < 6 by omega) (by omega), cl_e (show m < 2 ^ 31 by omega), t2, t3, (cld_k _ t1).2 k hk, nI_1, all_s]
      cases (List.range m).all (fun i => cld k (wh i) == cn i)
      · rfl
      · cases cld k (wh m) <;> cases cn m <;> rfl
    · intro rc2 u hI2
      try dsimp only
      rw [hI2.1, if_pos (nI_ge4 (by omega) (by omega) (Nat.le_refl n))]
    · intro u hI2
      obtain ⟨g1, g2⟩ := hI2
      try dsimp only
      rw [g2, nI_1]
      have ha := acc5 (lef n wh cn) hk
      unfold lef at ha ⊢
      cases hc : (List.range n).all (fun i => cld k (wh i) == cn i)
      · rw [hc] at ha
        rw [if_neg (show ¬ false = true by decide)] at ha
        exact ⟨_, ⟨rfl, ha⟩, rfl⟩
      · rw [hc] at ha
        rw [if_pos rfl] at ha
        exact ⟨_, ⟨rfl, ha⟩, rfl⟩
  · intro rc s hI
    try dsimp only
    rw [hI.1, if_pos (show (4 : Int32) < nI 5 by decide)]
  · intro s hI
    rw [hI.2]
    exact congrArg some (bI_congr (fun i hi => by rw [decide_eq_true hi, Bool.true_and]))
def askQ (q1 : Int32) : Option Int32 := (k_it (fun (ex14 rc14 : (Int32 × Int32 × Int32) → Option Int32) (a14 : Int32 × Int32 × Int32) => (if 4 ≤ a14.2.2 then ex14 (a14.1, a14.2.1, a14.2.2) else (if q1 = 0 then ex14 (a14.1, a14.2.1, a14.2.2) else (k_it (fun (ex30 rc30 : (Int32 × Int32) → Option Int32) (a30 : Int32 × Int32) => (if 4 < a30.2 then ex30 (a30.1, a30.2) else (if (f_X9_isIn q1 a30.2) = 0 then rc30 ((a30.1 + 0), (a30.2 + 1)) else (if (f_X9_could a30.2 a14.2.2) = 0 then rc30 ((a30.1 + 0), (a30.2 + 1)) else rc30 ((a30.1 + 1), (a30.2 + 1)))))) (fun (a30 : Int32 × Int32) => Option.bind (f_X9_size q1) (fun (q72 : Int32) => (Option.bind (α := Int32) (if a30.1 ≤ (q72 - a30.1) then some (q72 - a30.1) else some a30.1) (fun (j84 : Int32) => (Option.bind (α := Int32) (if a14.2.1 ≤ j84 then some a14.1 else some a14.2.2) (fun (j99 : Int32) => (if a14.2.1 ≤ j84 then rc14 (j99, a14.2.1, (a14.2.2 + 1)) else rc14 (j99, j84, (a14.2.2 + 1))))))))) 1000 (0, 0))))) (fun (a14 : Int32 × Int32 × Int32) => some a14.1) 1000 ((-1), 268435456, 0))
theorem ask_k : ∀ m, m < 32 → ∃ r, f_X4_bestQuestion (nI m) = some r ∧ askQ (nI m) = some r := by
  have h : ∀ m, m < 32 → (f_X4_bestQuestion (nI m)).isSome = true ∧ f_X4_bestQuestion (nI m) = askQ (nI m) := by decide +kernel
  intro m hm
  obtain ⟨h1, h2⟩ := h m hm
  obtain ⟨r, hr⟩ := Option.isSome_iff_exists.mp h1
  exact ⟨r, hr, by rw [← h2]; exact hr⟩
theorem askNow_e {n : Nat} (hn : n ≤ 6) {wh : Nat → Nat} {cn : Nat → Bool} {what can : Nat → Int32} (h : ∀ i, i < n → wh i < 4 ∧ what i = nI (wh i) ∧ can i = bi (cn i)) : ∃ r, f_X4_bestQuestion (bI 5 (lef n wh cn)) = some r ∧ f_X9_askNow (nI n) what can = some r := by
  obtain ⟨r, h1, h2⟩ := ask_k (bN (lef n wh cn) 5) (bN_lt _ 5)
  refine ⟨r, h1, ?_⟩
  unfold f_X9_askNow
  rw [sortsNow_e hn h, Option.bind_some]
  exact h2
theorem st_sorts {num poss seen : Int32} {what can : Nat → Int32} (h : ROb num poss seen what can) (x : Int32) : ∃ r, f_X8_sorts poss x = some r ∧ f_X9_sorts seen what can x = some r := by
  obtain ⟨n, wh, cn, hn, rfl, rfl, hi, rfl⟩ := h
  unfold f_X9_sorts f_X8_sorts
  rcases idx_k x 2 1 (by omega) (by decide) with ⟨j, g1, rfl, g2, g3⟩ | ⟨g2, g3⟩
  · simp only [show f_X8_isBelow (nI j) 2 = 1 from g2, g3, i10, if_false]
    rcases (by omega : j = 0 ∨ j = 1) with rfl | rfl
    · rw [if_pos (show nI 0 = 0 from rfl), if_pos (show nI 0 = 0 from rfl), sortsNow_e hn hi]
      exact ⟨_, rfl, rfl⟩
    · rw [if_neg (show ¬ nI 1 = 0 by decide), if_neg (show ¬ nI 1 = 0 by decide)]
      obtain ⟨r, h1, h2⟩ := askNow_e hn hi
      rw [h1, h2]
      exact ⟨_, rfl, rfl⟩
  · simp only [show f_X8_isBelow x 2 = 0 from g2, g3, i00, if_true]
    exact ⟨_, rfl, rfl⟩
/-! image and restore -/
theorem copyZ {β : Type} {src dst : Nat → Int32} {n : Nat} (hn : n < 1000) (ex : Int32 × (Nat → Int32) → Option β) (g : Int32 → Int32) (N : Int32) (hN : N = nI n) :
    k_it (fun (ex44 rc44 : (Int32 × (Nat → Int32)) → Option β) (a44 : Int32 × (Nat → Int32)) => (if N ≤ a44.1 then ex44 (a44.1, a44.2) else k_chk a44.1 n (k_chk a44.1 n (rc44 ((a44.1 + 1), (upd a44.2 (Int32.toNatClampNeg a44.1) (g (src (Int32.toNatClampNeg a44.1))))))))) ex 1000 (0, dst) = ex (nI n, fun j => if j < n then g (src j) else dst j) := by
  subst hN
  have h := k_for (N := 1000) (b := (fun (ex44 rc44 : (Int32 × (Nat → Int32)) → Option β) (a44 : Int32 × (Nat → Int32)) => (if nI n ≤ a44.1 then ex44 (a44.1, a44.2) else k_chk a44.1 n (k_chk a44.1 n (rc44 ((a44.1 + 1), (upd a44.2 (Int32.toNatClampNeg a44.1) (g (src (Int32.toNatClampNeg a44.1)))))))))) (ex := ex) n (fun k => (nI k, fun j => if j < k then g (src j) else dst j)) (by
    intro rc k hk
    try dsimp only
    rw [if_neg (nI_nge4 (by omega) (by omega) hk), chk_e hk (by omega), chk_e hk (by omega), cl_e (show k < 2 ^ 31 by omega), nI_1]
    congr 2
    refine fun_upd (fun j => ?_)
    by_cases q : j = k
    · rw [q, pk_us, if_pos (show k < k + 1 by omega)]
    · rw [pk_un q]
      by_cases q2 : j < k
      · rw [if_pos q2, if_pos (show j < k + 1 by omega)]
      · rw [if_neg q2, if_neg (show ¬ j < k + 1 by omega)]) (by
    intro rc
    try dsimp only
    rw [if_pos (nI_ge4 (by omega) (by omega) (Nat.le_refl n))]) (by omega)
  have e : (fun j => if j < 0 then g (src j) else dst j) = dst := fun_upd (fun j => if_neg (Nat.not_lt_zero j))
  rw [e] at h
  exact h
