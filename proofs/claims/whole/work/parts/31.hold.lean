/-! the class's own letters; the reference's words of what holds -/
theorem allLanes_e (b : Bool) {l : Nat} (hl : l < 64) : bL (f_X7_allLanes (if b then 1 else 0)) l = b := by
  cases b
  · exact c_0 l
  · exact c_m1 l hl
theorem mkv_b (p q : Bool) : f_X8_bit (mkv p q) 0 = (if p then 1 else 0) ∧ f_X8_bit (mkv p q) 1 = (if q then 1 else 0) := by revert p q; decide +kernel
theorem setLetters_e (vp vq : Nat → Int64) {a : Nat} (ha : a < 4) (x y : Int64) : f_X7_setLetters vp vq (nI a) x y = some (vp_updL vp a x, vp_updL vq a y) := by
  unfold f_X7_setLetters
  rw [show f_X8_isBelow (nI a) 4 = 1 from below_e (n := 4) ha (by omega), chk_e ha (by omega), chk_e ha (by omega), cl_e (show a < 2 ^ 31 by omega)]
  rfl
theorem useOwn_e (vp vq : Nat → Int64) (P Q : Nat → Bool) : ∃ vp' vq', f_X7_useOwn vp vq (bI 4 P) (bI 4 Q) = some (vp', vq') ∧ lt_ vp' (fun _ => P) ∧ lt_ vq' (fun _ => Q) := by
  unfold f_X7_useOwn
  refine k_runG (N := 1000) (fun (o : Option ((Nat → Int64) × (Nat → Int64))) => ∃ vp' vq', o = some (vp', vq') ∧ lt_ vp' (fun _ => P) ∧ lt_ vq' (fun _ => Q)) 4 (fun (k : Nat) (s : Int32 × (Nat → Int64) × (Nat → Int64)) => s.1 = nI k ∧ ∀ a l, a < k → l < 64 → bL (s.2.1 a) l = P a ∧ bL (s.2.2 a) l = Q a) (by omega) ⟨rfl, fun a l h => by omega⟩ ?_ ?_ ?_
  · intro rc k s hk hI
    obtain ⟨h1, h2⟩ := hI
    refine ⟨(nI (k + 1), vp_updL s.2.1 k (f_X7_allLanes (if P k then 1 else 0)), vp_updL s.2.2 k (f_X7_allLanes (if Q k then 1 else 0))), ⟨rfl, fun a l h3 h4 => ?_⟩, ?_⟩
    · try dsimp only
      by_cases g : a = k
      · rw [g, pk_uLs, pk_uLs, allLanes_e _ h4, allLanes_e _ h4]
        exact ⟨rfl, rfl⟩
      · rw [pk_uLn g, pk_uLn g]
        exact h2 a l (by omega) h4
    · try dsimp only
      rw [h1, if_neg (show ¬ (4 : Int32) ≤ nI k from nI_nge4 (a := 4) (by omega) (by omega) hk), marks_e P Q hk, (mkv_b _ _).1, (mkv_b _ _).2, setLetters_e _ _ hk, Option.bind_some, nI_1]
  · intro rc s hI
    try dsimp only
    rw [hI.1, if_pos (show (4 : Int32) ≤ nI 4 from nI_ge4 (a := 4) (by omega) (by omega) (Nat.le_refl 4))]
  · intro s hI
    exact ⟨_, _, rfl, fun a l h1 h2 => (hI.2 a l h1 h2).1, fun a l h1 h2 => (hI.2 a l h1 h2).2⟩
def pck (x0 x1 x2 x3 : Bool) (a : Nat) : Bool := if a = 0 then x0 else if a = 1 then x1 else if a = 2 then x2 else x3
theorem pck_e (f : Nat → Bool) : ∀ a, a < 4 → f a = pck (f 0) (f 1) (f 2) (f 3) a := by
  intro a ha
  rcases (by omega : a = 0 ∨ a = 1 ∨ a = 2 ∨ a = 3) with rfl | rfl | rfl | rfl <;> rfl
theorem full_k : ∀ w, w < 5 → ∀ x0 x1 x2 x3 : Bool, (((1 : Int32) <<< (nI w &&& 31)) - 1) - bI 4 (fun a => decide (a < w) && pck x0 x1 x2 x3 a) = bI 4 (fun a => decide (a < w) && !pck x0 x1 x2 x3 a) := by decide +kernel
theorem full_sub {w : Nat} (hw : w ≤ 4) (f : Nat → Bool) : (((1 : Int32) <<< (nI w &&& 31)) - 1) - bI 4 (fun a => decide (a < w) && f a) = bI 4 (fun a => decide (a < w) && !f a) := by
  have h := full_k w (by omega) (f 0) (f 1) (f 2) (f 3)
  have e1 : bI 4 (fun a => decide (a < w) && pck (f 0) (f 1) (f 2) (f 3) a) = bI 4 (fun a => decide (a < w) && f a) := bI_congr (fun a ha => by rw [← pck_e f a ha])
  have e2 : bI 4 (fun a => decide (a < w) && !pck (f 0) (f 1) (f 2) (f 3) a) = bI 4 (fun a => decide (a < w) && !f a) := bI_congr (fun a ha => by rw [← pck_e f a ha])
  rw [e1, e2] at h
  exact h
theorem acc_one (f : Nat → Bool) {k : Nat} (hk : k < 4) : bI 4 (fun a => decide (a < k) && f a) ||| (if f k then (1 : Int32) <<< (nI k &&& 31) else 0) = bI 4 (fun a => decide (a < k + 1) && f a) := by
  have e : (if f k then (1 : Int32) <<< (nI k &&& 31) else 0) = bI 4 (fun y => decide (y = k) && f k) := by
    cases f k
    · exact (bI_0 (n := 4) (by omega)).symm.trans (bI_congr (fun i _ => by simp))
    · exact (e_one hk).trans (bI_congr (fun i _ => by simp))
  rw [e, bI_or (by omega)]
  refine bI_congr (fun i hi => ?_)
  try dsimp only
  by_cases g : i = k
  · subst g
    rw [decide_eq_false (show ¬ i < i by omega), decide_eq_true (show i < i + 1 by omega), decide_eq_true rfl]
    rfl
  · by_cases g2 : i < k
    · rw [decide_eq_true g2, decide_eq_true (show i < k + 1 by omega), decide_eq_false g]
      simp
    · rw [decide_eq_false g2, decide_eq_false (show ¬ i < k + 1 by omega), decide_eq_false g]
      rfl
theorem can_e {w : Nat} (hw : w ≤ 4) {R : Nat → Nat → Bool} {to : Nat → Int32} (h : lk w R to) (S : Nat → Bool) : f_X9_can (nI w) to (bI 4 S) = some (bI 4 (fun a => decide (a < w) && (List.range 4).any (fun b => R a b && S b))) := by
  unfold f_X9_can
  refine k_runG (N := 1000) (fun (o : Option Int32) => o = some (bI 4 (fun a => decide (a < w) && (List.range 4).any (fun b => R a b && S b)))) w (fun (k : Nat) (s : Int32 × Int32) => s.2 = nI k ∧ s.1 = bI 4 (fun a => decide (a < k) && (List.range 4).any (fun b => R a b && S b))) (by omega) ⟨rfl, (bI_0 (n := 4) (by omega)).symm.trans (bI_congr (fun i _ => by simp))⟩ ?_ ?_ ?_
  · intro rc k s hk hI
    obtain ⟨h1, h2⟩ := hI
    refine ⟨(bI 4 (fun a => decide (a < k + 1) && (List.range 4).any (fun b => R a b && S b)), nI (k + 1)), ⟨rfl, rfl⟩, ?_⟩
    try dsimp only
    rw [h1, h2, if_neg (nI_nge4 (by omega) (by omega) hk), chk_e (show k < 4 by omega) (by omega), cl_e (show k < 2 ^ 31 by omega), h k hk, bI_and (by omega), ← acc_one _ (show k < 4 by omega), nI_1]
    by_cases g : (List.range 4).any (fun b => R k b && S b) = true
    · rw [if_neg (show ¬ bI 4 (fun i => R k i && S i) = 0 from fun q => by rw [(bI4_0 _).mp q] at g; exact absurd g (by decide)), if_pos g]
    · rw [if_pos ((bI4_0 _).mpr (Bool.eq_false_iff.mpr g)), if_neg g]
  · intro rc s hI
    try dsimp only
    rw [hI.1, if_pos (nI_ge4 (by omega) (by omega) (Nat.le_refl w))]
  · intro s hI
    rw [hI.2]
theorem bI4_suball (f S : Nat → Bool) : bI 4 f &&& bI 4 S = bI 4 f ↔ (List.range 4).all (fun b => !f b || S b) = true := by
  rw [bI_and (by omega)]
  constructor
  · intro h
    have h2 := bI_inj (by omega) h
    rw [List.all_eq_true]
    intro b hb
    have h3 := h2 b (List.mem_range.mp hb)
    revert h3
    cases f b <;> cases S b <;> simp
  · intro h
    rw [List.all_eq_true] at h
    refine bI_congr (fun b hb => ?_)
    have h3 := h b (List.mem_range.mpr hb)
    revert h3
    cases f b <;> cases S b <;> simp
theorem must_e {w : Nat} (hw : w ≤ 4) {R : Nat → Nat → Bool} {to : Nat → Int32} (h : lk w R to) (S : Nat → Bool) : f_X9_must (nI w) to (bI 4 S) = some (bI 4 (fun a => decide (a < w) && (List.range 4).all (fun b => !R a b || S b))) := by
  unfold f_X9_must
  refine k_runG (N := 1000) (fun (o : Option Int32) => o = some (bI 4 (fun a => decide (a < w) && (List.range 4).all (fun b => !R a b || S b)))) w (fun (k : Nat) (s : Int32 × Int32) => s.2 = nI k ∧ s.1 = bI 4 (fun a => decide (a < k) && (List.range 4).all (fun b => !R a b || S b))) (by omega) ⟨rfl, (bI_0 (n := 4) (by omega)).symm.trans (bI_congr (fun i _ => by simp))⟩ ?_ ?_ ?_
  · intro rc k s hk hI
    obtain ⟨h1, h2⟩ := hI
    refine ⟨(bI 4 (fun a => decide (a < k + 1) && (List.range 4).all (fun b => !R a b || S b)), nI (k + 1)), ⟨rfl, rfl⟩, ?_⟩
    try dsimp only
    rw [h1, h2, if_neg (nI_nge4 (by omega) (by omega) hk), chk_e (show k < 4 by omega) (by omega), chk_e (show k < 4 by omega) (by omega), cl_e (show k < 2 ^ 31 by omega), h k hk, ← acc_one _ (show k < 4 by omega), nI_1]
    by_cases g : (List.range 4).all (fun b => !R k b || S b) = true
    · rw [if_pos ((bI4_suball _ _).mpr g), if_pos g]
    · rw [if_neg (fun q => g ((bI4_suball _ _).mp q)), if_neg g]
  · intro rc s hI
    try dsimp only
    rw [hI.1, if_pos (nI_ge4 (by omega) (by omega) (Nat.le_refl w))]
  · intro s hI
    rw [hI.2]
def RMo (L : Nat) (g : Nat → Int32) (e : Nat → Nat) (signAt behind : Nat → Int32) : Prop := wfF L g e ∧ (∀ i, i < L → signAt i = g i) ∧ ∀ i, i < L → behind i = nI (e i)
def hw_ (w : Nat) (X : Nat → Nat → Bool) (i : Nat) : Int32 := bI 4 (fun a => decide (a < w) && X i a)
theorem wi_ {w : Nat} {P : Nat → Bool} (h : ∀ a, P a = true → a < w) : bI 4 P = bI 4 (fun a => decide (a < w) && P a) := bI_congr (fun a _ => by
  cases hp : P a
  · simp
  · rw [decide_eq_true (h a hp)]; rfl)
theorem holdsPart_e {L : Nat} {g : Nat → Int32} {e : Nat → Nat} {signAt behind : Nat → Int32} (hf : RMo L g e signAt behind) {w : Nat} (hw : w ≤ 4) {R : Nat → Nat → Bool} (hR : ∀ a b, R a b = true → a < w ∧ b < w) {P Q : Nat → Bool} (hP : ∀ a, P a = true → a < w) (hQ : ∀ a, Q a = true → a < w) {to : Nat → Int32} (hto : lk w R to) (holds : Nat → Int32) {i : Nat} (hi : i < L)
    (hh : ∀ j, i < j → j < L → holds j = hw_ w (hp g e R P Q) j) : f_X9_holdsPart (nI L) (nI w) (bI 4 P) (bI 4 Q) signAt behind to holds (nI i) = some (hw_ w (hp g e R P Q) i) := by
  obtain ⟨wf, hs, he⟩ := hf
  have h16 := wf.1
  obtain ⟨q1, q2, q3, q4, q5⟩ := wf.2 i hi
  unfold f_X9_holdsPart
  -- the first operand's word
  have j16 : ∀ β : Type, ∀ F : Int32 → Option β, Option.bind (if (nI L - 1) ≤ nI i then some 0 else k_chk (nI i + 1) 16 (some (holds (Int32.toNatClampNeg (nI i + 1))))) F = F (if i + 1 < L then hw_ w (hp g e R P Q) (i + 1) else 0) := by
    intro β F
    rw [show (1 : Int32) = nI 1 from rfl, pk_sub (show 1 ≤ L by omega)]
    by_cases g1 : i + 1 < L
    · rw [if_neg (nI_nge4 (by omega) (by omega) (show i < L - 1 by omega)), if_pos g1, nI_add, chk_e (show i + 1 < 16 by omega) (by omega), cl_e (show i + 1 < 2 ^ 31 by omega), hh (i + 1) (by omega) g1]
      rfl
    · rw [if_pos (nI_ge4 (by omega) (by omega) (show L - 1 ≤ i by omega)), if_neg g1]
      rfl
  rw [j16, chk_e (show i < 16 by omega) (by omega), cl_e (show i < 2 ^ 31 by omega), hs i hi, parts_e, oper_e q1, nI_1]
  have j42 : ∀ β : Type, ∀ F : Int32 → Option β, Option.bind (if nI (ar (g i)) = 2 then k_chk (nI (i + 1)) 17 (k_chk (behind (Int32.toNatClampNeg (nI (i + 1)))) 16 (some (holds (Int32.toNatClampNeg (behind (Int32.toNatClampNeg (nI (i + 1)))))))) else some 0) F = F (if ar (g i) = 2 then hw_ w (hp g e R P Q) (e (i + 1)) else 0) := by
    intro β F
    by_cases g2 : ar (g i) = 2
    · have h3 := q4 (by omega)
      have h4 := q5 g2
      have h7 := (wf.2 (i + 1) h3).2.1
      rw [if_pos (show nI (ar (g i)) = 2 from congrArg nI g2), if_pos g2, cl_e (show i + 1 < 2 ^ 31 by omega), he (i + 1) h3, chk_e (show i + 1 < 17 by omega) (by omega), chk_e (show e (i + 1) < 16 by omega) (by omega), cl_e (show e (i + 1) < 2 ^ 31 by omega), hh _ (by omega) h4]
      rfl
    · have h5 : ar (g i) < 3 := by unfold ar; repeat (first | (split; omega) | split | omega)
      rw [if_neg (show ¬ nI (ar (g i)) = 2 from nI_ne (b := 2) (by omega) (by omega) g2), if_neg g2]
      rfl
  rw [j42, chk_e (show i < 16 by omega) (by omega)]
  have fin : ∀ x : Int32, x = bI 4 (fun a => decide (a < w) && stp g e R P Q (hp g e R P Q) i a) → some x = some (hw_ w (hp g e R P Q) i) := fun x hx => by
    rw [hx]
    unfold hw_
    exact congrArg some (bI_congr (fun a _ => by rw [hp_step wf R P Q hi a]))
  rcases q1 with h | h | h | h | h | h | h | h
  · rw [if_pos (q4 (by rw [h]; decide)), if_pos (show ar (g i) = 2 by rw [h]; decide), h, if_pos rfl]
    exact fin _ ((bI_and (by omega) _ _).trans (bI_congr (fun a _ => by
      try dsimp only
      rw [stp_38 h]; cases decide (a < w) <;> simp)))
  · rw [if_pos (q4 (by rw [h]; decide)), if_pos (show ar (g i) = 2 by rw [h]; decide), h, if_neg (by decide), if_neg (by decide), if_neg (by decide), if_neg (by decide), if_neg (by decide), if_neg (by decide), if_neg (by decide)]
    refine fin _ ?_
    unfold hw_
    rw [full_sub hw, bI_or (by omega)]
    exact bI_congr (fun a _ => by
      try dsimp only
      rw [stp_62 h]; cases decide (a < w) <;> simp)
  · rw [if_pos (q4 (by rw [h]; decide)), h, if_neg (by decide), if_pos rfl]
    unfold hw_
    rw [can_e hw hto, Option.bind_some]
    exact fin _ (bI_congr (fun a ha => by
      try dsimp only
      rw [stp_77 h]
      refine congrArg _ (any4_congr (fun b => ?_))
      cases hr : R a b
      · rfl
      · rw [decide_eq_true (hR a b hr).2]; rfl))
  · rw [if_pos (q4 (by rw [h]; decide)), h, if_neg (by decide), if_neg (by decide), if_pos rfl]
    unfold hw_
    rw [must_e hw hto, Option.bind_some]
    exact fin _ (bI_congr (fun a ha => by
      try dsimp only
      rw [stp_78 h]
      refine congrArg _ (all4_congr (fun b => ?_))
      cases hr : R a b
      · rfl
      · rw [decide_eq_true (hR a b hr).2]; rfl))
  · rw [h, if_neg (by decide), if_neg (by decide), if_neg (by decide), if_pos rfl]
    exact fin _ ((wi_ hP).trans (bI_congr (fun a _ => by rw [stp_112 h])))
  · rw [h, if_neg (by decide), if_neg (by decide), if_neg (by decide), if_neg (by decide), if_pos rfl]
    exact fin _ ((wi_ hQ).trans (bI_congr (fun a _ => by rw [stp_113 h])))
  · rw [if_pos (q4 (by rw [h]; decide)), if_pos (show ar (g i) = 2 by rw [h]; decide), h, if_neg (by decide), if_neg (by decide), if_neg (by decide), if_neg (by decide), if_neg (by decide), if_pos rfl]
    exact fin _ ((bI_or (by omega) _ _).trans (bI_congr (fun a _ => by
      try dsimp only
      rw [stp_124 h]; cases decide (a < w) <;> simp)))
  · rw [if_pos (q4 (by rw [h]; decide)), h, if_neg (by decide), if_neg (by decide), if_neg (by decide), if_neg (by decide), if_neg (by decide), if_neg (by decide), if_pos rfl]
    refine fin _ ?_
    unfold hw_
    rw [full_sub hw]
    exact bI_congr (fun a _ => by
      try dsimp only
      rw [stp_126 h])
theorem layHolds_e {L : Nat} {g : Nat → Int32} {e : Nat → Nat} {signAt behind : Nat → Int32} (hf : RMo L g e signAt behind) {w : Nat} (hw : w ≤ 4) {R : Nat → Nat → Bool} (hR : ∀ a b, R a b = true → a < w ∧ b < w) {P Q : Nat → Bool} (hP : ∀ a, P a = true → a < w) (hQ : ∀ a, Q a = true → a < w) {to : Nat → Int32} (hto : lk w R to) (holds : Nat → Int32) :
    ∃ holds', f_X9_layHolds (nI L) (nI w) (bI 4 P) (bI 4 Q) signAt behind to holds = some holds' ∧ ∀ i, i < L → holds' i = hw_ w (hp g e R P Q) i := by
  have h16 := hf.1.1
  unfold f_X9_layHolds
  refine k_runG (N := 1000) (fun (o : Option (Nat → Int32)) => ∃ holds', o = some holds' ∧ ∀ i, i < L → holds' i = hw_ w (hp g e R P Q) i) L (fun (k : Nat) (s : Int32 × (Nat → Int32)) => s.1 = nI (L - k) - 1 ∧ ∀ i, L - k ≤ i → i < L → s.2 i = hw_ w (hp g e R P Q) i) (by omega) ⟨rfl, fun i h1 h2 => by omega⟩ ?_ ?_ ?_
  · intro rc k s hk hI
    obtain ⟨h1, h2⟩ := hI
    have hj : s.1 = nI (L - k - 1) := by rw [h1, show L - k = (L - k - 1) + 1 by omega, dn_1]; rfl
    generalize hi : L - k - 1 = i at hj
    have hiL : i < L := by omega
    refine ⟨(s.1 + -1, upd s.2 i (hw_ w (hp g e R P Q) i)), ⟨?_, fun j h3 h4 => ?_⟩, ?_⟩
    · try dsimp only
      rw [hj, dn_2]
    · try dsimp only
      by_cases g1 : j = i
      · rw [g1, pk_us]
      · rw [pk_un g1]
        exact h2 j (by omega) h4
    · try dsimp only
      rw [hj, if_neg (nI_pos (show i < 2 ^ 31 by omega)), holdsPart_e hf hw hR hP hQ hto s.2 hiL (fun j h3 h4 => h2 j (by omega) h4), Option.bind_some, chk_e (show i < 16 by omega) (by omega), cl_e (show i < 2 ^ 31 by omega)]
  · intro rc s hI
    try dsimp only
    rw [hI.1, if_pos (show nI (L - L) - 1 < 0 by rw [Nat.sub_self]; decide)]
  · intro s hI
    exact ⟨s.2, rfl, fun i hi => hI.2 i (by omega) hi⟩
