/-! formulas: what holds where -/
def bL (x : Int64) (l : Nat) : Bool := x.toBitVec.getLsbD l
theorem c_ext {x y : Int64} (h : ∀ l, l < 64 → bL x l = bL y l) : x = y := Int64.toBitVec_inj.mp (BitVec.eq_of_getLsbD_eq (fun i hi => h i hi))
theorem c_or (x y : Int64) (l : Nat) : bL (x ||| y) l = (bL x l || bL y l) := by unfold bL; rw [Int64.toBitVec_or, BitVec.getLsbD_or]
theorem c_and (x y : Int64) (l : Nat) : bL (x &&& y) l = (bL x l && bL y l) := by unfold bL; rw [Int64.toBitVec_and, BitVec.getLsbD_and]
theorem c_xor (x y : Int64) (l : Nat) : bL (x ^^^ y) l = (bL x l ^^ bL y l) := by unfold bL; rw [Int64.toBitVec_xor, BitVec.getLsbD_xor]
theorem c_0 (l : Nat) : bL 0 l = false := BitVec.getLsbD_zero
theorem c_m1 : ∀ l, l < 64 → bL (-1) l = true := by decide +kernel
theorem c_not (x : Int64) {l : Nat} (hl : l < 64) : bL (x ^^^ (-1)) l = !bL x l := by rw [c_xor, c_m1 l hl, Bool.xor_true]
def stp (g : Nat → Int32) (e : Nat → Nat) (R : Nat → Nat → Bool) (P Q : Nat → Bool) (X : Nat → Nat → Bool) (i a : Nat) : Bool :=
  if g i = 38 then X (i + 1) a && X (e (i + 1)) a
  else if g i = 62 then !X (i + 1) a || X (e (i + 1)) a
  else if g i = 78 then (List.range 4).all (fun b => !R a b || X (i + 1) b)
  else if g i = 112 then P a
  else if g i = 113 then Q a
  else if g i = 124 then X (i + 1) a || X (e (i + 1)) a
  else if g i = 126 then !X (i + 1) a
  else (List.range 4).any (fun b => R a b && X (i + 1) b)
section
variable {g : Nat → Int32} {e : Nat → Nat} {R : Nat → Nat → Bool} {P Q : Nat → Bool} {X : Nat → Nat → Bool} {i a : Nat}
theorem stp_38 (h : g i = 38) : stp g e R P Q X i a = (X (i + 1) a && X (e (i + 1)) a) := by unfold stp; rw [if_pos h]
theorem stp_62 (h : g i = 62) : stp g e R P Q X i a = (!X (i + 1) a || X (e (i + 1)) a) := by
  unfold stp; rw [if_neg (show ¬ g i = 38 by rw [h]; decide), if_pos h]
theorem stp_78 (h : g i = 78) : stp g e R P Q X i a = (List.range 4).all (fun b => !R a b || X (i + 1) b) := by
  unfold stp; rw [if_neg (show ¬ g i = 38 by rw [h]; decide), if_neg (show ¬ g i = 62 by rw [h]; decide), if_pos h]
theorem stp_112 (h : g i = 112) : stp g e R P Q X i a = P a := by
  unfold stp; rw [if_neg (show ¬ g i = 38 by rw [h]; decide), if_neg (show ¬ g i = 62 by rw [h]; decide), if_neg (show ¬ g i = 78 by rw [h]; decide), if_pos h]
theorem stp_113 (h : g i = 113) : stp g e R P Q X i a = Q a := by
  unfold stp; rw [if_neg (show ¬ g i = 38 by rw [h]; decide), if_neg (show ¬ g i = 62 by rw [h]; decide), if_neg (show ¬ g i = 78 by rw [h]; decide), if_neg (show ¬ g i = 112 by rw [h]; decide), if_pos h]
theorem stp_124 (h : g i = 124) : stp g e R P Q X i a = (X (i + 1) a || X (e (i + 1)) a) := by
  unfold stp; rw [if_neg (show ¬ g i = 38 by rw [h]; decide), if_neg (show ¬ g i = 62 by rw [h]; decide), if_neg (show ¬ g i = 78 by rw [h]; decide), if_neg (show ¬ g i = 112 by rw [h]; decide), if_neg (show ¬ g i = 113 by rw [h]; decide), if_pos h]
theorem stp_126 (h : g i = 126) : stp g e R P Q X i a = !X (i + 1) a := by
  unfold stp; rw [if_neg (show ¬ g i = 38 by rw [h]; decide), if_neg (show ¬ g i = 62 by rw [h]; decide), if_neg (show ¬ g i = 78 by rw [h]; decide), if_neg (show ¬ g i = 112 by rw [h]; decide), if_neg (show ¬ g i = 113 by rw [h]; decide), if_neg (show ¬ g i = 124 by rw [h]; decide), if_pos h]
theorem stp_77 (h : g i = 77) : stp g e R P Q X i a = (List.range 4).any (fun b => R a b && X (i + 1) b) := by
  unfold stp; rw [if_neg (show ¬ g i = 38 by rw [h]; decide), if_neg (show ¬ g i = 62 by rw [h]; decide), if_neg (show ¬ g i = 78 by rw [h]; decide), if_neg (show ¬ g i = 112 by rw [h]; decide), if_neg (show ¬ g i = 113 by rw [h]; decide), if_neg (show ¬ g i = 124 by rw [h]; decide), if_neg (show ¬ g i = 126 by rw [h]; decide)]
end
def isS (c : Int32) : Prop := c = 38 ∨ c = 62 ∨ c = 77 ∨ c = 78 ∨ c = 112 ∨ c = 113 ∨ c = 124 ∨ c = 126
def ar (c : Int32) : Nat := if c = 38 then 2 else if c = 62 then 2 else if c = 77 then 1 else if c = 78 then 1 else if c = 124 then 2 else if c = 126 then 1 else 0
theorem oper_e {c : Int32} (h : isS c) : f_X0_operands c = nI (ar c) := by rcases h with rfl | rfl | rfl | rfl | rfl | rfl | rfl | rfl <;> rfl
theorem parts_e (c : Int32) : f_X9_partsOf c = f_X0_operands c := rfl
def wfF (L : Nat) (g : Nat → Int32) (e : Nat → Nat) : Prop := L ≤ 16 ∧ ∀ i, i < L → isS (g i) ∧ i < e i ∧ e i ≤ L ∧ (0 < ar (g i) → i + 1 < L) ∧ (ar (g i) = 2 → e (i + 1) < L)
theorem all4_congr {f h : Nat → Bool} (H : ∀ b, f b = h b) : (List.range 4).all f = (List.range 4).all h := by rw [show f = h from funext H]
theorem any4_congr {f h : Nat → Bool} (H : ∀ b, f b = h b) : (List.range 4).any f = (List.range 4).any h := by rw [show f = h from funext H]
theorem stp_congr {g : Nat → Int32} {e : Nat → Nat} {R : Nat → Nat → Bool} {P Q : Nat → Bool} {X Y : Nat → Nat → Bool} {i a : Nat} (hs : isS (g i)) (h1 : 0 < ar (g i) → ∀ b, (b = a ∨ R a b = true) → X (i + 1) b = Y (i + 1) b) (h2 : ar (g i) = 2 → X (e (i + 1)) a = Y (e (i + 1)) a) : stp g e R P Q X i a = stp g e R P Q Y i a := by
  rcases hs with h | h | h | h | h | h | h | h
  · rw [stp_38 h, stp_38 h, h1 (by rw [h]; decide) a (.inl rfl), h2 (by rw [h]; decide)]
  · rw [stp_62 h, stp_62 h, h1 (by rw [h]; decide) a (.inl rfl), h2 (by rw [h]; decide)]
  · rw [stp_77 h, stp_77 h]
    refine any4_congr (fun b => ?_)
    cases hr : R a b
    · rfl
    · rw [h1 (by rw [h]; decide) b (.inr hr)]
  · rw [stp_78 h, stp_78 h]
    refine all4_congr (fun b => ?_)
    cases hr : R a b
    · rfl
    · rw [h1 (by rw [h]; decide) b (.inr hr)]
  · rw [stp_112 h, stp_112 h]
  · rw [stp_113 h, stp_113 h]
  · rw [stp_124 h, stp_124 h, h1 (by rw [h]; decide) a (.inl rfl), h2 (by rw [h]; decide)]
  · rw [stp_126 h, stp_126 h, h1 (by rw [h]; decide) a (.inl rfl)]
def hpf (g : Nat → Int32) (e : Nat → Nat) (R : Nat → Nat → Bool) (P Q : Nat → Bool) : Nat → Nat → Nat → Bool
  | 0 => fun _ _ => false
  | n + 1 => stp g e R P Q (hpf g e R P Q n)
def hp (g : Nat → Int32) (e : Nat → Nat) (R : Nat → Nat → Bool) (P Q : Nat → Bool) (i a : Nat) : Bool := hpf g e R P Q (16 - i) i a
theorem hpf_eq {L : Nat} {g : Nat → Int32} {e : Nat → Nat} (wf : wfF L g e) (R : Nat → Nat → Bool) (P Q : Nat → Bool) : ∀ n m i a, i < L → L - i ≤ n → L - i ≤ m → hpf g e R P Q n i a = hpf g e R P Q m i a
  | 0, _, i, _, h, h1, _ => by omega
  | n + 1, 0, i, _, h, _, h2 => by omega
  | n + 1, m + 1, i, a, h, h1, h2 => by
    obtain ⟨q1, q2, q3, q4, q5⟩ := wf.2 i h
    show stp g e R P Q (hpf g e R P Q n) i a = stp g e R P Q (hpf g e R P Q m) i a
    refine stp_congr q1 (fun z b _ => ?_) (fun z => ?_)
    · have := q4 z
      exact hpf_eq wf R P Q n m (i + 1) b this (by omega) (by omega)
    · have h6 := q5 z
      have h7 := (wf.2 (i + 1) (q4 (by omega))).2.1
      exact hpf_eq wf R P Q n m (e (i + 1)) a h6 (by omega) (by omega)
theorem hp_step {L : Nat} {g : Nat → Int32} {e : Nat → Nat} (wf : wfF L g e) (R : Nat → Nat → Bool) (P Q : Nat → Bool) {i : Nat} (hi : i < L) (a : Nat) : hp g e R P Q i a = stp g e R P Q (hp g e R P Q) i a := by
  have h16 := wf.1
  obtain ⟨q1, q2, q3, q4, q5⟩ := wf.2 i hi
  have e1 : hp g e R P Q i a = stp g e R P Q (hpf g e R P Q (15 - i)) i a := by
    show hpf g e R P Q (16 - i) i a = _
    rw [show 16 - i = (15 - i) + 1 by omega]
    rfl
  rw [e1]
  refine stp_congr q1 (fun z b _ => ?_) (fun z => ?_)
  · have := q4 z
    exact hpf_eq wf R P Q _ _ (i + 1) b this (by omega) (by omega)
  · have h6 := q5 z
    have h7 := (wf.2 (i + 1) (q4 (by omega))).2.1
    exact hpf_eq wf R P Q _ _ (e (i + 1)) a h6 (by omega) (by omega)
/-! the class: 64 lanes -/
theorem at_e (held : Nat → Int64) {j b : Nat} (hj : j < 16) (hb : b < 4) : f_X7_at held (nI j) (nI b) = some (held (4 * j + b)) := by
  unfold f_X7_at
  rw [nI_mul4, if_neg (nI_pos (show 4 * j + b < 2 ^ 31 by omega)), if_neg (show ¬ (64 : Int32) ≤ nI (4 * j + b) from nI_nge4 (a := 64) (by omega) (by omega) (by omega)), chk_e (show 4 * j + b < 64 by omega) (by omega), cl_e (show 4 * j + b < 2 ^ 31 by omega)]
theorem inAll_e (held : Nat → Int64) {j : Nat} (hj : j < 16) (S : Nat → Bool) : ∃ x, f_X7_inAll held (nI j) (bI 4 S) = some x ∧ ∀ l, l < 64 → bL x l = (List.range 4).all (fun b => !S b || bL (held (4 * j + b)) l) := by
  unfold f_X7_inAll
  refine k_runG (N := 1000) (fun (o : Option Int64) => ∃ x, o = some x ∧ ∀ l, l < 64 → bL x l = (List.range 4).all (fun b => !S b || bL (held (4 * j + b)) l)) 4 (fun (k : Nat) (s : Int64 × Int32) => s.2 = nI k ∧ ∀ l, l < 64 → bL s.1 l = (List.range k).all (fun b => !S b || bL (held (4 * j + b)) l)) (by omega) ⟨rfl, fun l hl => c_m1 l hl⟩ ?_ ?_ ?_
  · intro rc k s hk hI
    obtain ⟨h1, h2⟩ := hI
    refine ⟨((if S k then s.1 &&& held (4 * j + k) else s.1), nI (k + 1)), ⟨rfl, fun l hl => ?_⟩, ?_⟩
    · try dsimp only
      rw [all_s, ← h2 l hl]
      cases hS : S k
      · simp
      · simp [c_and]
    · try dsimp only
      rw [h1, if_neg (show ¬ (4 : Int32) ≤ nI k from nI_nge4 (show 4 < 2 ^ 31 by omega) (show k < 2 ^ 31 by omega) hk), bit_e (by omega) S hk (by omega), nI_1, at_e held hj hk]
      cases hS : S k <;> rfl
  · intro rc s hI
    try dsimp only
    rw [hI.1, if_pos (show (4 : Int32) ≤ nI 4 from nI_ge4 (show 4 < 2 ^ 31 by omega) (show 4 < 2 ^ 31 by omega) (Nat.le_refl 4))]
  · intro s hI
    exact ⟨s.1, rfl, hI.2⟩
theorem inSome_e (held : Nat → Int64) {j : Nat} (hj : j < 16) (S : Nat → Bool) : ∃ x, f_X7_inSome held (nI j) (bI 4 S) = some x ∧ ∀ l, l < 64 → bL x l = (List.range 4).any (fun b => S b && bL (held (4 * j + b)) l) := by
  unfold f_X7_inSome
  refine k_runG (N := 1000) (fun (o : Option Int64) => ∃ x, o = some x ∧ ∀ l, l < 64 → bL x l = (List.range 4).any (fun b => S b && bL (held (4 * j + b)) l)) 4 (fun (k : Nat) (s : Int64 × Int32) => s.2 = nI k ∧ ∀ l, l < 64 → bL s.1 l = (List.range k).any (fun b => S b && bL (held (4 * j + b)) l)) (by omega) ⟨rfl, fun l hl => c_0 l⟩ ?_ ?_ ?_
  · intro rc k s hk hI
    obtain ⟨h1, h2⟩ := hI
    refine ⟨((if S k then s.1 ||| held (4 * j + k) else s.1), nI (k + 1)), ⟨rfl, fun l hl => ?_⟩, ?_⟩
    · try dsimp only
      rw [any_s, ← h2 l hl]
      cases hS : S k
      · simp
      · simp [c_or]
    · try dsimp only
      rw [h1, if_neg (show ¬ (4 : Int32) ≤ nI k from nI_nge4 (show 4 < 2 ^ 31 by omega) (show k < 2 ^ 31 by omega) hk), bit_e (by omega) S hk (by omega), nI_1, at_e held hj hk]
      cases hS : S k <;> rfl
  · intro rc s hI
    try dsimp only
    rw [hI.1, if_pos (show (4 : Int32) ≤ nI 4 from nI_ge4 (show 4 < 2 ^ 31 by omega) (show 4 < 2 ^ 31 by omega) (Nat.le_refl 4))]
  · intro s hI
    exact ⟨s.1, rfl, hI.2⟩
theorem below_e {k n : Nat} (hk : k < n) (hn : n < 2 ^ 31) : f_X8_isBelow (nI k) (nI n) = 1 := by
  rcases idx_e (nI k) hn with ⟨_, _, _, h, _⟩ | ⟨h, _⟩
  · exact h
  · unfold f_X8_isBelow at h
    rw [if_neg (nI_pos (show k < 2 ^ 31 by omega)), if_neg (nI_nge4 hn (by omega) hk)] at h
    exact absurd h (by decide)
theorem signAt_e (signs : Nat → Int32) {i : Nat} (hi : i < 16) : f_X0_signAt signs (nI i) = some (signs i) := by
  unfold f_X0_signAt
  rw [show f_X8_isBelow (nI i) 16 = 1 from below_e (n := 16) hi (by omega), chk_e hi (by omega), cl_e (show i < 2 ^ 31 by omega)]
  rfl
theorem end_e (len : Int32) (ends : Nat → Int32) {i : Nat} (hi : i < 16) : f_X0_end len ends (nI i) = some (ends i) := by
  unfold f_X0_end
  rw [show f_X8_isBelow (nI i) 16 = 1 from below_e (n := 16) hi (by omega), chk_e hi (by omega), cl_e (show i < 2 ^ 31 by omega)]
  rfl
def RFo (L : Nat) (g : Nat → Int32) (e : Nat → Nat) (signs ends : Nat → Int32) : Prop := wfF L g e ∧ (∀ i, i < L → signs i = g i) ∧ ∀ i, i < L → ends i = nI (e i)
def lt_ (v : Nat → Int64) (P : Nat → Nat → Bool) : Prop := ∀ a l, a < 4 → l < 64 → bL (v a) l = P l a
theorem lanesOf_e {L : Nat} {g : Nat → Int32} {e : Nat → Nat} {signs ends : Nat → Int32} (hf : RFo L g e signs ends) {w : Nat} (hw : w ≤ 4) (R : Nat → Nat → Bool) {vp vq : Nat → Int64} {P Q : Nat → Nat → Bool} (hp_ : lt_ vp P) (hq : lt_ vq Q) (held : Nat → Int64) {i a : Nat} (hi : i < L) (ha : a < w) :
    ∃ x, f_X7_lanesOf vp vq held (nI L) signs ends (eA R) (nI i) (nI a) = some x ∧ ∀ l, l < 64 → bL x l = stp g e R (P l) (Q l) (fun j b => bL (held (4 * j + b)) l) i a := by
  obtain ⟨wf, hs, he⟩ := hf
  have h16 := wf.1
  obtain ⟨q1, q2, q3, q4, q5⟩ := wf.2 i hi
  unfold f_X7_lanesOf
  rw [signAt_e signs (show i < 16 by omega), Option.bind_some, hs i hi, nI_1, row_e R (show a < 4 by omega)]
  have two : ar (g i) = 2 → i + 1 < L ∧ e (i + 1) < L ∧ f_X0_end (nI L) ends (nI (i + 1)) = some (nI (e (i + 1))) := fun h => by
    have h3 := q4 (by omega)
    exact ⟨h3, q5 h, by rw [end_e _ _ (show i + 1 < 16 by omega), he _ h3]⟩
  rcases q1 with h | h | h | h | h | h | h | h
  · obtain ⟨t1, t2, t3⟩ := two (by rw [h]; decide)
    rw [h, if_pos rfl, at_e held (show i + 1 < 16 by omega) (show a < 4 by omega), t3, Option.bind_some, Option.bind_some, at_e held (show e (i + 1) < 16 by omega) (show a < 4 by omega), Option.bind_some]
    exact ⟨_, rfl, fun l hl => by rw [stp_38 h, c_and]⟩
  · obtain ⟨t1, t2, t3⟩ := two (by rw [h]; decide)
    rw [h, if_neg (by decide), if_pos rfl, at_e held (show i + 1 < 16 by omega) (show a < 4 by omega), t3, Option.bind_some, Option.bind_some, at_e held (show e (i + 1) < 16 by omega) (show a < 4 by omega), Option.bind_some]
    exact ⟨_, rfl, fun l hl => by rw [stp_62 h, c_or, c_not _ hl]⟩
  · have t1 := q4 (by rw [h]; decide)
    rw [h, if_neg (by decide), if_neg (by decide), if_neg (by decide), if_neg (by decide), if_neg (by decide), if_neg (by decide), if_neg (by decide)]
    obtain ⟨x, e1, e2⟩ := inSome_e held (show i + 1 < 16 by omega) (R a)
    rw [e1]
    exact ⟨x, rfl, fun l hl => by rw [stp_77 h]; exact e2 l hl⟩
  · have t1 := q4 (by rw [h]; decide)
    rw [h, if_neg (by decide), if_neg (by decide), if_pos rfl]
    obtain ⟨x, e1, e2⟩ := inAll_e held (show i + 1 < 16 by omega) (R a)
    rw [e1]
    exact ⟨x, rfl, fun l hl => by rw [stp_78 h]; exact e2 l hl⟩
  · rw [h, if_neg (by decide), if_neg (by decide), if_neg (by decide), if_pos rfl, show f_X8_isBelow (nI a) 4 = 1 from below_e (n := 4) (show a < 4 by omega) (by omega), chk_e (show a < 4 by omega) (by omega), cl_e (show a < 2 ^ 31 by omega)]
    exact ⟨_, rfl, fun l hl => by rw [stp_112 h]; exact hp_ a l (by omega) hl⟩
  · rw [h, if_neg (by decide), if_neg (by decide), if_neg (by decide), if_neg (by decide), if_pos rfl, show f_X8_isBelow (nI a) 4 = 1 from below_e (n := 4) (show a < 4 by omega) (by omega), chk_e (show a < 4 by omega) (by omega), cl_e (show a < 2 ^ 31 by omega)]
    exact ⟨_, rfl, fun l hl => by rw [stp_113 h]; exact hq a l (by omega) hl⟩
  · obtain ⟨t1, t2, t3⟩ := two (by rw [h]; decide)
    rw [h, if_neg (by decide), if_neg (by decide), if_neg (by decide), if_neg (by decide), if_neg (by decide), if_pos rfl, at_e held (show i + 1 < 16 by omega) (show a < 4 by omega), t3, Option.bind_some, Option.bind_some, at_e held (show e (i + 1) < 16 by omega) (show a < 4 by omega), Option.bind_some]
    exact ⟨_, rfl, fun l hl => by rw [stp_124 h, c_or]⟩
  · have t1 := q4 (by rw [h]; decide)
    rw [h, if_neg (by decide), if_neg (by decide), if_neg (by decide), if_neg (by decide), if_neg (by decide), if_neg (by decide), if_pos rfl, at_e held (show i + 1 < 16 by omega) (show a < 4 by omega), Option.bind_some]
    exact ⟨_, rfl, fun l hl => by rw [stp_126 h, c_not _ hl]⟩
theorem set_e (held : Nat → Int64) {j b : Nat} (hj : j < 16) (hb : b < 4) (x : Int64) : f_X7_set held (nI j) (nI b) x = some (vp_updL held (4 * j + b) x) := by
  unfold f_X7_set
  rw [nI_mul4, show f_X8_isBelow (nI (4 * j + b)) 64 = 1 from below_e (n := 64) (show 4 * j + b < 64 by omega) (by omega), chk_e (show 4 * j + b < 64 by omega) (by omega), cl_e (show 4 * j + b < 2 ^ 31 by omega)]
  rfl
theorem dn_1 {n : Nat} : nI (n + 1) - 1 = nI n := by rw [show (1 : Int32) = nI 1 from rfl, pk_sub (show 1 ≤ n + 1 by omega)]; rfl
theorem dn_2 (n : Nat) : nI n + -1 = nI n - 1 := by rw [Int32.sub_eq_add_neg]
/-- the parts from the L - k-th on are right -/
def hdR (L k w : Nat) (g : Nat → Int32) (e : Nat → Nat) (R : Nat → Nat → Bool) (P Q : Nat → Nat → Bool) (held : Nat → Int64) : Prop := ∀ i a l, L - k ≤ i → i < L → a < w → l < 64 → bL (held (4 * i + a)) l = hp g e R (P l) (Q l) i a
theorem evaluate_e {L : Nat} {g : Nat → Int32} {e : Nat → Nat} {signs ends : Nat → Int32} (hf : RFo L g e signs ends) {w : Nat} (hw : w ≤ 4) {R : Nat → Nat → Bool} (hR : ∀ a b, R a b = true → a < w ∧ b < w) {vp vq : Nat → Int64} {P Q : Nat → Nat → Bool} (hp_ : lt_ vp P) (hq : lt_ vq Q) (held : Nat → Int64) :
    ∃ held', f_X7_evaluate vp vq held (nI L) signs ends (nI w) (eA R) = some held' ∧ hdR L L w g e R P Q held' := by
  have hf0 := hf
  obtain ⟨wf, hs, he⟩ := hf
  have h16 := wf.1
  unfold f_X7_evaluate
  refine k_runG (N := 1000) (fun (o : Option (Nat → Int64)) => ∃ held', o = some held' ∧ hdR L L w g e R P Q held') L (fun (k : Nat) (s : Int32 × (Nat → Int64)) => s.1 = nI (L - k) - 1 ∧ hdR L k w g e R P Q s.2) (by omega) ⟨rfl, fun i a l h1 h2 => by omega⟩ ?_ ?_ ?_
  · intro rc k s hk hI
    obtain ⟨h1, h2⟩ := hI
    -- the part's place
    have hj : s.1 = nI (L - k - 1) := by rw [h1, show L - k = (L - k - 1) + 1 by omega, dn_1]; rfl
    generalize hi : L - k - 1 = i at hj
    have hiL : i < L := by omega
    obtain ⟨q1, q2, q3, q4, q5⟩ := wf.2 i hiL
    generalize s.2 = held0 at h2 ⊢
    suffices H : ∃ held2, (k_it (fun (ex14 rc14 : (Int32 × (Nat → Int64)) → Option (Nat → Int64)) (a14 : Int32 × (Nat → Int64)) => (if nI w ≤ a14.1 then ex14 (a14.1, a14.2) else Option.bind (f_X7_lanesOf vp vq a14.2 (nI L) signs ends (eA R) s.1 a14.1) (fun (q33 : Int64) => Option.bind (f_X7_set a14.2 s.1 a14.1 q33) (fun (q36 : (Nat → Int64)) => rc14 ((a14.1 + 1), q36))))) (fun (a14 : Int32 × (Nat → Int64)) => rc ((s.1 + (-1)), a14.2)) 1000 (0, held0)) = rc (s.1 + (-1), held2) ∧ hdR L (k + 1) w g e R P Q held2 by
      obtain ⟨held2, e1, e2⟩ := H
      refine ⟨(s.1 + -1, held2), ⟨?_, e2⟩, ?_⟩
      · try dsimp only
        rw [hj, dn_2]
      · try dsimp only
        rw [if_neg (show ¬ s.1 < 0 by rw [hj]; exact nI_pos (show i < 2 ^ 31 by omega))]
        exact e1
    rw [hj]
    refine k_runG (N := 1000) (fun (o : Option (Nat → Int64)) => ∃ held2, o = rc (nI i + (-1), held2) ∧ hdR L (k + 1) w g e R P Q held2) w (fun (m : Nat) (s : Int32 × (Nat → Int64)) => s.1 = nI m ∧ hdR L k w g e R P Q s.2 ∧ ∀ a l, a < m → l < 64 → bL (s.2 (4 * i + a)) l = hp g e R (P l) (Q l) i a) (by omega) ⟨rfl, h2, fun a l h => by omega⟩ ?_ ?_ ?_
    · intro rc2 m s2 hm hI2
      obtain ⟨t1, t2, t3⟩ := hI2
      obtain ⟨x, e1, e2⟩ := lanesOf_e hf0 hw R hp_ hq s2.2 hiL hm
      have hx : ∀ l, l < 64 → bL x l = hp g e R (P l) (Q l) i m := fun l hl => by
        rw [e2 l hl, hp_step wf _ _ _ hiL]
        refine stp_congr q1 (fun z b hb => ?_) (fun z => ?_)
        · have := q4 z
          refine t2 (i + 1) b l (by omega) this ?_ hl
          rcases hb with rfl | hb
          · exact hm
          · exact (hR _ _ hb).2
        · have h6 := q5 z
          have h7 := (wf.2 (i + 1) (q4 (by omega))).2.1
          exact t2 (e (i + 1)) m l (by omega) h6 hm hl
      refine ⟨(nI (m + 1), vp_updL s2.2 (4 * i + m) x), ⟨rfl, fun j a l h3 h4 h5 h6 => ?_, fun a l h3 h4 => ?_⟩, ?_⟩
      · try dsimp only
        rw [pk_uLn (show 4 * j + a ≠ 4 * i + m by omega)]
        exact t2 j a l h3 h4 h5 h6
      · try dsimp only
        by_cases g1 : a = m
        · rw [g1, pk_uLs]
          exact hx l h4
        · rw [pk_uLn (show 4 * i + a ≠ 4 * i + m by omega)]
          exact t3 a l (by omega) h4
      · try dsimp only
        rw [t1, if_neg (nI_nge4 (by omega) (by omega) hm), e1, Option.bind_some, set_e _ (show i < 16 by omega) (show m < 4 by omega), Option.bind_some, nI_1]
    · intro rc2 s2 hI2
      try dsimp only
      rw [hI2.1, if_pos (nI_ge4 (by omega) (by omega) (Nat.le_refl w))]
    · intro s2 hI2
      refine ⟨s2.2, rfl, fun j a l h3 h4 h5 h6 => ?_⟩
      by_cases g1 : j = i
      · rw [g1]; exact hI2.2.2 a l h5 h6
      · exact hI2.2.1 j a l (by omega) h4 h5 h6
  · intro rc s hI
    try dsimp only
    rw [hI.1, if_pos (show nI (L - L) - 1 < 0 by rw [Nat.sub_self]; decide)]
  · intro s hI
    exact ⟨s.2, rfl, hI.2⟩
