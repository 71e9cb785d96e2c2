/-! a frame's text, both ways -/
def stg (p : Nat) : Nat := if p = 4 then 6 else if p = 5 then 4 else if p = 6 then 5 else p
def RTx (p kk w a c : Nat) (R : Nat → Nat → Bool) (P Q : Nat → Bool) (pl fr le dk dw da dp dq sg nk nw nf nl np nq : Int32) (narr : Nat → Int32) : Prop :=
  p ≤ 9 ∧ pl = nI p ∧ sg = nI (stg p) ∧ (1 ≤ p → kk < 5 ∧ dk = nI kk ∧ nk = nI kk) ∧ (2 ≤ p → 1 ≤ w ∧ w ≤ 4 ∧ dw = nI w ∧ nw = nI w) ∧ (p = 5 → a < w ∧ fr = nI a ∧ nf = nI a) ∧
  (c ≤ 4 ∧ (p ≤ 7 → c = 0) ∧ (8 ≤ p → le = nI c) ∧ nl = nI c - 1) ∧ da = eA R ∧ ba narr R ∧ dp = bI 4 P ∧ np = bI 4 P ∧ dq = bI 4 Q ∧ nq = bI 4 Q ∧
  (2 ≤ p → (∀ x y, R x y = true → x < w ∧ y < w) ∧ (∀ x, P x = true → x < w) ∧ ∀ x, Q x = true → x < w) ∧ (p ≤ 1 → (∀ x y, R x y = false) ∧ (∀ x, P x = false) ∧ ∀ x, Q x = false)
def RT (pl fr le dk dw da dp dq sg nk nw nf nl np nq : Int32) (narr : Nat → Int32) : Prop := ∃ p kk w a c R P Q, RTx p kk w a c R P Q pl fr le dk dw da dp dq sg nk nw nf nl np nq narr
abbrev C9 := Option (Int32 × Int32 × Int32 × Int32 × Int32 × Int32 × Int32 × Int32 × Int32)
abbrev M9 := Option (Int32 × Int32 × Int32 × Int32 × Int32 × Int32 × Int32 × Int32 × (Nat → Int32))
/-- both refuse the sign, or both take it -/
def stG (o : C9) (o' : M9) : Prop := (∃ s t, o = some (0, s) ∧ o' = some (0, t)) ∨ (∃ pl fr le dk dw da dp dq sg nk nw nf nl np nq narr, o = some (1, pl, fr, le, dk, dw, da, dp, dq) ∧ o' = some (1, sg, nk, nw, nf, nl, np, nq, narr) ∧ RT pl fr le dk dw da dp dq sg nk nw nf nl np nq narr)
theorem kind_or (x : Int32) : (∃ kk, kk < 5 ∧ f_X3_kindOf x = nI kk) ∨ f_X3_kindOf x = -1 := by
  unfold f_X3_kindOf
  split
  · exact .inl ⟨4, by omega, rfl⟩
  · split
    · exact .inl ⟨0, by omega, rfl⟩
    · split
      · exact .inl ⟨2, by omega, rfl⟩
      · split
        · exact .inl ⟨1, by omega, rfl⟩
        · split
          · exact .inl ⟨3, by omega, rfl⟩
          · exact .inr rfl
theorem w14_e (x : Int32) : (∃ n, 0 < n ∧ n ≤ 4 ∧ x = nI n ∧ ¬ x < 1 ∧ x ≤ 4 ∧ f_X9_within x 1 4 = 1) ∨ ((x < 1 ∨ ¬ x ≤ 4) ∧ f_X9_within x 1 4 = 0) := by
  unfold f_X9_within
  by_cases h1 : x < 1
  · exact Or.inr ⟨.inl h1, if_pos h1⟩
  · have h0 : ¬ x < 0 := fun q => h1 (by
      rw [Int32.lt_iff_toInt_lt] at q ⊢
      have e1 : (1 : Int32).toInt = 1 := rfl
      have e0 : (0 : Int32).toInt = 0 := rfl
      omega)
    obtain ⟨n, hn, rfl⟩ := nI_of h0
    have a1 : ¬ n < 1 := fun q => h1 ((nI_ltI hn (show 1 < 2 ^ 31 by omega)).mpr q)
    have a2 : nI n ≤ 4 ↔ n ≤ 4 := nI_leI hn (show 4 < 2 ^ 31 by omega)
    have a3 : 4 < nI n ↔ 4 < n := nI_ltI (show 4 < 2 ^ 31 by omega) hn
    by_cases h3 : n ≤ 4
    · exact Or.inl ⟨n, by omega, h3, rfl, h1, a2.mpr h3, by rw [if_neg h1, if_neg (fun q => by have := a3.mp q; omega)]⟩
    · exact Or.inr ⟨.inr (fun q => h3 (a2.mp q)), by rw [if_neg h1, if_pos (a3.mpr (by omega))]⟩
theorem goes_0 (s x : Int32) : f_X9_goes s 0 x = some (0, s) := rfl
theorem goes_1 (s x : Int32) : f_X9_goes s 1 x = some (1, x) := rfl
theorem kbl_0 {β : Type} (e : Option β) : k_bl 0 e = e := rfl
theorem kbl_1 {β : Type} (e : Option β) : k_bl 1 e = e := rfl
theorem sign_t {pl le x y z : Int32} (h : x = y) : f_X3_readsSign pl le x y z = (1, z, 0) := if_pos h
theorem sign_f {pl le x y z : Int32} (h : ¬ x = y) : f_X3_readsSign pl le x y z = (0, pl, le) := if_neg h
theorem marked_0 {w c : Nat} (hw : w ≤ 4) (hc : c ≤ 4) (p q x m : Int32) (h : f_X8_isBelow (x - 48) (nI w) = 0) : f_X3_readsMarked (nI c) (nI w) p q x m = (0, nI c, p, q) := by
  unfold f_X8_isBelow at h
  unfold f_X3_readsMarked
  by_cases h1 : x - 48 < nI c
  · rw [if_pos h1]
  · rw [if_neg h1]
    by_cases h2 : x - 48 < nI w
    · exfalso
      have h0 : ¬ x - 48 < 0 := fun q => h1 (by
        have hz := nI_pos' (show c < 2 ^ 31 by omega)
        rw [Int32.lt_iff_toInt_lt] at q ⊢
        rw [Int32.le_iff_toInt_le] at hz
        have e0 : (0 : Int32).toInt = 0 := rfl
        omega)
      rw [if_neg h0] at h
      by_cases h3 : nI w ≤ x - 48
      · rw [Int32.lt_iff_toInt_lt] at h2
        rw [Int32.le_iff_toInt_le] at h3
        omega
      · rw [if_neg h3] at h
        exact absurd h (by decide)
    · rw [if_neg h2]
theorem or_bit (P : Nat → Bool) {a : Nat} (ha : a < 4) : bI 4 P ||| ((1 : Int32) <<< (nI a &&& 31)) = bI 4 (fun i => P i || decide (i = a)) := by
  rw [e_one ha, bI_or (by omega)]
theorem mk_or : ∀ p q : Bool, f_X8_bit (mkv p q ||| 1) 0 = 1 ∧ f_X8_bit (mkv p q ||| 1) 1 = (if q then 1 else 0) ∧ f_X8_bit (mkv p q ||| 2) 0 = (if p then 1 else 0) ∧ f_X8_bit (mkv p q ||| 2) 1 = 1 := by decide +kernel
theorem setM_1 (P Q : Nat → Bool) {a : Nat} (ha : a < 4) : f_X2_setMarks (bI 4 P) (bI 4 Q) (nI a) (f_X2_marks (bI 4 P) (bI 4 Q) (nI a) ||| 1) = (bI 4 (fun i => P i || decide (i = a)), bI 4 Q) := by
  unfold f_X2_setMarks
  simp only [k_let]
  rw [marks_e P Q ha, (mk_or _ _).1, (mk_or _ _).2.1]
  have e1 := e_setMark P ha true
  have e2 := e_setMark Q ha (Q a)
  rw [show (if (true : Bool) = true then (1 : Int32) else 0) = 1 from rfl] at e1
  rw [e1, e2]
  congr 1
  · exact bI_congr (fun i _ => by
      by_cases q : i = a
      · rw [if_pos q, decide_eq_true q, Bool.or_true]
      · rw [if_neg q, decide_eq_false q, Bool.or_false])
  · exact bI_congr (fun i _ => by
      by_cases q : i = a
      · rw [if_pos q, q]
      · rw [if_neg q])
theorem setM_2 (P Q : Nat → Bool) {a : Nat} (ha : a < 4) : f_X2_setMarks (bI 4 P) (bI 4 Q) (nI a) (f_X2_marks (bI 4 P) (bI 4 Q) (nI a) ||| 2) = (bI 4 P, bI 4 (fun i => Q i || decide (i = a))) := by
  unfold f_X2_setMarks
  simp only [k_let]
  rw [marks_e P Q ha, (mk_or _ _).2.2.1, (mk_or _ _).2.2.2]
  have e1 := e_setMark P ha (P a)
  have e2 := e_setMark Q ha true
  rw [show (if (true : Bool) = true then (1 : Int32) else 0) = 1 from rfl] at e2
  rw [e1, e2]
  congr 1
  · exact bI_congr (fun i _ => by
      by_cases q : i = a
      · rw [if_pos q, q]
      · rw [if_neg q])
  · exact bI_congr (fun i _ => by
      by_cases q : i = a
      · rw [if_pos q, decide_eq_true q, Bool.or_true]
      · rw [if_neg q, decide_eq_false q, Bool.or_false])
theorem in_or {P : Nat → Bool} {w a : Nat} (h : ∀ x, P x = true → x < w) (ha : a < w) : ∀ x, (P x || decide (x = a)) = true → x < w := fun x hx => by
  rw [Bool.or_eq_true, decide_eq_true_eq] at hx
  rcases hx with q | q
  · exact h x q
  · omega
theorem step_e {pl fr le dk dw da dp dq sg nk nw nf nl np nq : Int32} {narr : Nat → Int32} (h : RT pl fr le dk dw da dp dq sg nk nw nf nl np nq narr) {d : Nat} (d0 : 32 ≤ d) (d1 : d ≤ 126) : stG (f_X3_reads pl fr le dk dw da dp dq (nI d)) (f_X9_takes sg nk nw nf nl np nq narr (nI d)) := by
  obtain ⟨p, kk, w, a, c, R, P, Q, hp9, rfl, rfl, hk, hw, hfa, ⟨hc4, hc7, hc8, rfl⟩, rfl, hna, rfl, rfl, rfl, rfl, hin, hno⟩ := h
  have hd : ∀ v : Nat, v < 2 ^ 31 → ((nI d = nI v) ↔ d = v) := fun v hv => nI_eq (by omega) hv
  have hy : 48 ≤ d → nI d - 48 = nI (d - 48) := fun h => by rw [show (48 : Int32) = nI 48 from rfl, pk_sub h]
  unfold f_X3_reads f_X9_takes
  rcases (by omega : p = 0 ∨ p = 1 ∨ p = 2 ∨ p = 3 ∨ p = 4 ∨ p = 5 ∨ p = 6 ∨ p = 7 ∨ p = 8 ∨ p = 9) with rfl | rfl | rfl | rfl | rfl | rfl | rfl | rfl | rfl | rfl
  · -- the kind
    rw [if_pos (show nI 0 = 0 from rfl), if_pos (show nI (stg 0) = 0 from rfl)]
    simp only [k_let]
    unfold f_X3_readsKind
    rw [show f_X9_kindBy (nI d) = f_X3_kindOf (nI d) from rfl]
    rcases kind_or (nI d) with ⟨kk', q1, q2⟩ | q2
    · rw [q2, if_neg (nm1 (show kk' < 2 ^ 31 by omega)), if_neg (nm1 (show kk' < 2 ^ 31 by omega)), goes_1, Option.bind_some]
      obtain ⟨n1, n2, n3⟩ := hno (by omega)
      exact .inr ⟨_, _, _, _, _, _, _, _, _, _, _, _, _, _, _, _, rfl, rfl, 1, kk', w, a, c, R, P, Q, by omega, rfl, rfl, fun _ => ⟨q1, rfl, rfl⟩, fun h => by omega, fun h => by omega, ⟨hc4, fun _ => hc7 (by omega), fun h => by omega, rfl⟩, rfl, hna, rfl, rfl, rfl, rfl, fun h => by omega, fun _ => ⟨n1, n2, n3⟩⟩
    · rw [q2, if_pos rfl, if_pos rfl, goes_0, Option.bind_some]
      exact .inl ⟨_, _, rfl, rfl⟩
  · -- how many worlds
    rw [if_neg (show ¬ nI 1 = 0 by decide), if_pos (show nI 1 = 1 from rfl), if_neg (show ¬ nI (stg 1) = 0 by decide), if_pos (show nI (stg 1) = 1 from rfl)]
    simp only [k_let]
    unfold f_X3_readsSize
    obtain ⟨k1, rfl, rfl⟩ := hk (by omega)
    rcases w14_e (nI d - 48) with ⟨n, q1, q2, q3, q4, q5, q6⟩ | ⟨q1, q6⟩
    · rw [if_neg q4, if_pos q5, q6, goes_1, Option.bind_some, q3]
      obtain ⟨n1, n2, n3⟩ := hno (by omega)
      exact .inr ⟨_, _, _, _, _, _, _, _, _, _, _, _, _, _, _, _, rfl, rfl, 2, kk, n, a, c, R, P, Q, by omega, rfl, rfl, fun _ => ⟨k1, rfl, rfl⟩, fun _ => ⟨q1, q2, rfl, rfl⟩, fun h => by omega, ⟨hc4, fun _ => hc7 (by omega), fun h => by omega, rfl⟩, rfl, hna, rfl, rfl, rfl, rfl, fun _ => ⟨fun x y h => (by rw [n1] at h; cases h), fun x h => (by rw [n2] at h; cases h), fun x h => (by rw [n3] at h; cases h)⟩, fun h => by omega⟩
    · have e : (if nI d - 48 < 1 then ((0 : Int32), nI 1, dw) else if nI d - 48 ≤ 4 then (1, 2, nI d - 48) else (0, nI 1, dw)) = (0, nI 1, dw) := by
        by_cases q : nI d - 48 < 1
        · rw [if_pos q]
        · rw [if_neg q, if_neg (q1.resolve_left q)]
      rw [e, q6, goes_0, Option.bind_some]
      exact .inl ⟨_, _, rfl, rfl⟩
  · -- the colon
    rw [if_neg (show ¬ nI 2 = 0 by decide), if_neg (show ¬ nI 2 = 1 by decide), if_pos (show nI 2 = 2 from rfl), if_neg (show ¬ nI (stg 2) = 0 by decide), if_neg (show ¬ nI (stg 2) = 1 by decide), if_pos (show nI (stg 2) = 2 from rfl)]
    simp only [k_let]
    by_cases h : nI d = 58
    · rw [sign_t h, if_pos h, goes_1, Option.bind_some]
      exact .inr ⟨_, _, _, _, _, _, _, _, _, _, _, _, _, _, _, _, rfl, rfl, 3, kk, w, a, c, R, P, Q, by omega, rfl, rfl, fun _ => hk (by omega), fun _ => hw (by omega), fun h => by omega, ⟨hc4, fun _ => hc7 (by omega), fun h => by omega, rfl⟩, rfl, hna, rfl, rfl, rfl, rfl, fun _ => hin (by omega), fun h => by omega⟩
    · rw [sign_f h, if_neg h, goes_0, Option.bind_some]
      exact .inl ⟨_, _, rfl, rfl⟩
  · -- the first arrow's beginning, or none
    rw [if_neg (show ¬ nI 3 = 0 by decide), if_neg (show ¬ nI 3 = 1 by decide), if_neg (show ¬ nI 3 = 2 by decide), if_pos (show nI 3 = 3 from rfl), if_neg (show ¬ nI (stg 3) = 0 by decide), if_neg (show ¬ nI (stg 3) = 1 by decide), if_neg (show ¬ nI (stg 3) = 2 by decide), if_pos (show nI (stg 3) = 3 from rfl)]
    simp only [k_let]
    obtain ⟨w1, w4, rfl, rfl⟩ := hw (by omega)
    unfold f_X3_readsFrom
    rcases idx_e (nI d - 48) (w_lt w4) with ⟨b, q1, q2, q3, q4⟩ | ⟨q3, q4⟩
    · rw [q3, q4, if_neg (show ¬ (1 : Int32) = 0 by decide), if_neg (show ¬ (1 : Int32) = 0 by decide), if_neg (show ¬ nI d = 59 from fun z => by
        have := (hd 59 (by omega)).mp z
        rw [hy (by omega)] at q2
        have := (nI_eq (by omega) (by omega)).mp q2
        omega), goes_1, Option.bind_some, q2]
      exact .inr ⟨_, _, _, _, _, _, _, _, _, _, _, _, _, _, _, _, rfl, rfl, 5, kk, w, b, c, R, P, Q, by omega, rfl, rfl, fun _ => hk (by omega), fun _ => ⟨w1, w4, rfl, rfl⟩, fun _ => ⟨q1, rfl, rfl⟩, ⟨hc4, fun _ => hc7 (by omega), fun h => by omega, rfl⟩, rfl, hna, rfl, rfl, rfl, rfl, fun _ => hin (by omega), fun h => by omega⟩
    · rw [q3, q4, if_pos rfl, if_pos rfl]
      by_cases h : nI d = 59
      · rw [sign_t h, if_pos h, if_neg (show ¬ (1 : Int32) = 0 by decide), goes_1, Option.bind_some]
        exact .inr ⟨_, _, _, _, _, _, _, _, _, _, _, _, _, _, _, _, rfl, rfl, 7, kk, w, a, c, R, P, Q, by omega, rfl, rfl, fun _ => hk (by omega), fun _ => ⟨w1, w4, rfl, rfl⟩, fun h => by omega, ⟨hc4, fun _ => hc7 (by omega), fun h => by omega, rfl⟩, rfl, hna, rfl, rfl, rfl, rfl, fun _ => hin (by omega), fun h => by omega⟩
      · rw [sign_f h, if_neg h, if_pos rfl, goes_0, Option.bind_some]
        exact .inl ⟨_, _, rfl, rfl⟩
  · -- the next arrow's beginning
    rw [if_neg (show ¬ nI 4 = 0 by decide), if_neg (show ¬ nI 4 = 1 by decide), if_neg (show ¬ nI 4 = 2 by decide), if_neg (show ¬ nI 4 = 3 by decide), if_pos (show nI 4 = 4 from rfl), if_neg (show ¬ nI (stg 4) = 0 by decide), if_neg (show ¬ nI (stg 4) = 1 by decide), if_neg (show ¬ nI (stg 4) = 2 by decide), if_neg (show ¬ nI (stg 4) = 3 by decide), if_neg (show ¬ nI (stg 4) = 4 by decide), if_neg (show ¬ nI (stg 4) = 5 by decide), if_pos (show nI (stg 4) = 6 from rfl)]
    simp only [k_let]
    obtain ⟨w1, w4, rfl, rfl⟩ := hw (by omega)
    unfold f_X3_readsFrom
    rcases idx_e (nI d - 48) (w_lt w4) with ⟨b, q1, q2, q3, q4⟩ | ⟨q3, q4⟩
    · rw [q3, q4, if_neg (show ¬ (1 : Int32) = 0 by decide), goes_1, Option.bind_some, q2]
      exact .inr ⟨_, _, _, _, _, _, _, _, _, _, _, _, _, _, _, _, rfl, rfl, 5, kk, w, b, c, R, P, Q, by omega, rfl, rfl, fun _ => hk (by omega), fun _ => ⟨w1, w4, rfl, rfl⟩, fun _ => ⟨q1, rfl, rfl⟩, ⟨hc4, fun _ => hc7 (by omega), fun h => by omega, rfl⟩, rfl, hna, rfl, rfl, rfl, rfl, fun _ => hin (by omega), fun h => by omega⟩
    · rw [q3, q4, if_pos rfl, goes_0, Option.bind_some]
      exact .inl ⟨_, _, rfl, rfl⟩
  · -- where it goes
    rw [if_neg (show ¬ nI 5 = 0 by decide), if_neg (show ¬ nI 5 = 1 by decide), if_neg (show ¬ nI 5 = 2 by decide), if_neg (show ¬ nI 5 = 3 by decide), if_neg (show ¬ nI 5 = 4 by decide), if_pos (show nI 5 = 5 from rfl), if_neg (show ¬ nI (stg 5) = 0 by decide), if_neg (show ¬ nI (stg 5) = 1 by decide), if_neg (show ¬ nI (stg 5) = 2 by decide), if_neg (show ¬ nI (stg 5) = 3 by decide), if_pos (show nI (stg 5) = 4 from rfl)]
    simp only [k_let]
    obtain ⟨w1, w4, rfl, rfl⟩ := hw (by omega)
    obtain ⟨a1, rfl, rfl⟩ := hfa rfl
    unfold f_X3_readsTo f_X9_takesArrow
    rcases idx_e (nI d - 48) (w_lt w4) with ⟨b, q1, q2, q3, q4⟩ | ⟨q3, q4⟩
    · rw [q3, q4, if_neg (show ¬ (1 : Int32) = 0 by decide), if_neg (show ¬ (1 : Int32) = 0 by decide), q2, has_e R (show a < 4 by omega) (show b < 4 by omega), nI_mul4, chk_e (show 4 * a + b < 16 by omega) (by omega), cl_e (show 4 * a + b < 2 ^ 31 by omega), ba_get hna (show a < 4 by omega) (show b < 4 by omega)]
      cases hr : R a b
      · rw [if_neg (show ¬ false = true by decide), if_pos rfl, if_pos (show bi false = 0 from rfl), Option.bind_some, if_neg (show ¬ (1 : Int32) = 0 by decide), chk_e (show 4 * a + b < 16 by omega) (by omega), kbl_1, kbl_1, Option.bind_some, e_turn R (show a < 4 by omega) (show b < 4 by omega), show vp_nar .boolean 1 = bi true from rfl]
        have hz : eA (fun x y => R x y ^^ (decide (x = a) && decide (y = b))) = eA (up1 R a b) := eA_congr (fun x y _ _ => by
          unfold up1
          by_cases z : x = a ∧ y = b
          · rw [z.1, z.2, hr, decide_eq_true rfl, decide_eq_true rfl]; rfl
          · have : (decide (x = a) && decide (y = b)) = false := not_t (fun q => z (by rw [Bool.and_eq_true, decide_eq_true_eq, decide_eq_true_eq] at q; exact q))
            rw [this, Bool.xor_false, Bool.or_false])
        rw [hz]
        obtain ⟨i1, i2, i3⟩ := hin (by omega)
        exact .inr ⟨_, _, _, _, _, _, _, _, _, _, _, _, _, _, _, _, rfl, rfl, 6, kk, w, a, c, up1 R a b, P, Q, by omega, rfl, rfl, fun _ => hk (by omega), fun _ => ⟨w1, w4, rfl, rfl⟩, fun h => by omega, ⟨hc4, fun _ => hc7 (by omega), fun h => by omega, rfl⟩, rfl, ba_up1 hna (show a < 4 by omega) (show b < 4 by omega), rfl, rfl, rfl, rfl, fun _ => ⟨fun x y h => by
          rcases up1_e.mp h with h | ⟨rfl, rfl⟩
          · exact i1 x y h
          · exact ⟨a1, q1⟩, i2, i3⟩, fun h => by omega⟩
      · rw [if_pos rfl, if_neg (show ¬ (1 : Int32) = 0 by decide), if_neg (show ¬ bi true = 0 by decide), Option.bind_some, if_pos rfl, kbl_0, kbl_0, Option.bind_some]
        exact .inl ⟨_, _, rfl, rfl⟩
    · rw [q3, q4, if_pos rfl, if_pos rfl, Option.bind_some, if_pos rfl, kbl_0, kbl_0, Option.bind_some]
      exact .inl ⟨_, _, rfl, rfl⟩
  · -- after an arrow
    rw [if_neg (show ¬ nI 6 = 0 by decide), if_neg (show ¬ nI 6 = 1 by decide), if_neg (show ¬ nI 6 = 2 by decide), if_neg (show ¬ nI 6 = 3 by decide), if_neg (show ¬ nI 6 = 4 by decide), if_neg (show ¬ nI 6 = 5 by decide), if_pos (show nI 6 = 6 from rfl), if_neg (show ¬ nI (stg 6) = 0 by decide), if_neg (show ¬ nI (stg 6) = 1 by decide), if_neg (show ¬ nI (stg 6) = 2 by decide), if_neg (show ¬ nI (stg 6) = 3 by decide), if_neg (show ¬ nI (stg 6) = 4 by decide), if_pos (show nI (stg 6) = 5 from rfl)]
    simp only [k_let]
    by_cases h : nI d = 59
    · rw [sign_f (show ¬ nI d = 44 by rw [h]; decide), if_pos rfl, sign_t h, if_neg (show ¬ (1 : Int32) = 0 by decide), if_pos h, goes_1, Option.bind_some]
      exact .inr ⟨_, _, _, _, _, _, _, _, _, _, _, _, _, _, _, _, rfl, rfl, 7, kk, w, a, c, R, P, Q, by omega, rfl, rfl, fun _ => hk (by omega), fun _ => hw (by omega), fun h => by omega, ⟨hc4, fun _ => hc7 (by omega), fun h => by omega, rfl⟩, rfl, hna, rfl, rfl, rfl, rfl, fun _ => hin (by omega), fun h => by omega⟩
    · rw [if_neg h]
      by_cases h2 : nI d = 44
      · rw [sign_t h2, if_neg (show ¬ (1 : Int32) = 0 by decide), if_pos h2, goes_1, Option.bind_some]
        exact .inr ⟨_, _, _, _, _, _, _, _, _, _, _, _, _, _, _, _, rfl, rfl, 4, kk, w, a, c, R, P, Q, by omega, rfl, rfl, fun _ => hk (by omega), fun _ => hw (by omega), fun h => by omega, ⟨hc4, fun _ => hc7 (by omega), fun h => by omega, rfl⟩, rfl, hna, rfl, rfl, rfl, rfl, fun _ => hin (by omega), fun h => by omega⟩
      · rw [sign_f h2, if_pos rfl, sign_f h, if_pos rfl, if_neg h2, goes_0, Option.bind_some]
        exact .inl ⟨_, _, rfl, rfl⟩
  · -- the first marks
    rw [if_neg (show ¬ nI 7 = 0 by decide), if_neg (show ¬ nI 7 = 1 by decide), if_neg (show ¬ nI 7 = 2 by decide), if_neg (show ¬ nI 7 = 3 by decide), if_neg (show ¬ nI 7 = 4 by decide), if_neg (show ¬ nI 7 = 5 by decide), if_neg (show ¬ nI 7 = 6 by decide), if_pos (show nI 7 = 7 from rfl), if_neg (show ¬ nI (stg 7) = 0 by decide), if_neg (show ¬ nI (stg 7) = 1 by decide), if_neg (show ¬ nI (stg 7) = 2 by decide), if_neg (show ¬ nI (stg 7) = 3 by decide), if_neg (show ¬ nI (stg 7) = 4 by decide), if_neg (show ¬ nI (stg 7) = 5 by decide), if_neg (show ¬ nI (stg 7) = 6 by decide), if_pos (show nI (stg 7) = 7 from rfl)]
    simp only [k_let]
    by_cases h : nI d = 112
    · rw [sign_t h, if_pos h, goes_1, Option.bind_some]
      exact .inr ⟨_, _, _, _, _, _, _, _, _, _, _, _, _, _, _, _, rfl, rfl, 8, kk, w, a, c, R, P, Q, by omega, rfl, rfl, fun _ => hk (by omega), fun _ => hw (by omega), fun h => by omega, ⟨hc4, fun h => by omega, fun _ => by rw [hc7 (by omega)]; rfl, rfl⟩, rfl, hna, rfl, rfl, rfl, rfl, fun _ => hin (by omega), fun h => by omega⟩
    · rw [sign_f h, if_neg h, goes_0, Option.bind_some]
      exact .inl ⟨_, _, rfl, rfl⟩
  · -- worlds marked p
    rw [if_neg (show ¬ nI 8 = 0 by decide), if_neg (show ¬ nI 8 = 1 by decide), if_neg (show ¬ nI 8 = 2 by decide), if_neg (show ¬ nI 8 = 3 by decide), if_neg (show ¬ nI 8 = 4 by decide), if_neg (show ¬ nI 8 = 5 by decide), if_neg (show ¬ nI 8 = 6 by decide), if_neg (show ¬ nI 8 = 7 by decide), if_pos (show nI 8 = 8 from rfl), if_neg (show ¬ nI (stg 8) = 0 by decide), if_neg (show ¬ nI (stg 8) = 1 by decide), if_neg (show ¬ nI (stg 8) = 2 by decide), if_neg (show ¬ nI (stg 8) = 3 by decide), if_neg (show ¬ nI (stg 8) = 4 by decide), if_neg (show ¬ nI (stg 8) = 5 by decide), if_neg (show ¬ nI (stg 8) = 6 by decide), if_neg (show ¬ nI (stg 8) = 7 by decide)]
    simp only [k_let]
    obtain ⟨w1, w4, rfl, rfl⟩ := hw (by omega)
    have hle := hc8 (by omega)
    subst hle
    obtain ⟨i1, i2, i3⟩ := hin (by omega)
    by_cases h : nI d = 113
    · have hb : f_X8_isBelow (nI d - 48) (nI w) = 0 ∧ f_X9_within (nI d - 48) 0 (nI w - 1) = 0 := by
        rcases idx_e (nI d - 48) (w_lt w4) with ⟨b, q1, q2, q3, q4⟩ | q
        · exfalso
          have := (hd 113 (by omega)).mp h
          rw [hy (by omega)] at q2
          have := (nI_eq (by omega) (by omega)).mp q2
          omega
        · exact q
      rw [marked_0 w4 hc4 _ _ _ _ hb.1, if_pos rfl, sign_t h, if_neg (show ¬ (1 : Int32) = 0 by decide), hb.2, if_pos rfl]
      unfold f_X9_takesMark
      rw [if_pos (show nI (stg 8) = 8 from rfl), if_pos h, Option.bind_some]
      exact .inr ⟨_, _, _, _, _, _, _, _, _, _, _, _, _, _, _, _, rfl, rfl, 9, kk, w, a, 0, R, P, Q, by omega, rfl, rfl, fun _ => hk (by omega), fun _ => ⟨w1, w4, rfl, rfl⟩, fun h => by omega, ⟨by omega, fun _ => rfl, fun _ => rfl, rfl⟩, rfl, hna, rfl, rfl, rfl, rfl, fun _ => ⟨i1, i2, i3⟩, fun h => by omega⟩
    · rcases idx_e (nI d - 48) (w_lt w4) with ⟨b, q1, q2, q3, q4⟩ | ⟨q3, q4⟩
      · by_cases hbc : b < c
        · have hm : f_X3_readsMarked (nI c) (nI w) (bI 4 P) (bI 4 Q) (nI d) 1 = (0, nI c, bI 4 P, bI 4 Q) := by
            unfold f_X3_readsMarked
            rw [q2, if_pos ((nI_ltI (by omega) (by omega)).mpr hbc)]
          rw [hm, if_pos rfl, sign_f h, if_pos rfl, q4, if_neg (show ¬ (1 : Int32) = 0 by decide), if_pos (show nI d - 48 ≤ nI c - 1 by rw [q2, show (1 : Int32) = nI 1 from rfl, pk_sub (show 1 ≤ c by omega)]; exact nI_ge4 (by omega) (by omega) (by omega))]
          unfold f_X9_takesMark
          rw [if_pos (show nI (stg 8) = 8 from rfl), if_neg h, if_pos rfl, kbl_0, Option.bind_some]
          exact .inl ⟨_, _, rfl, rfl⟩
        · have hm : f_X3_readsMarked (nI c) (nI w) (bI 4 P) (bI 4 Q) (nI d) 1 = (1, nI (b + 1), bI 4 (fun i => P i || decide (i = b)), bI 4 Q) := by
            unfold f_X3_readsMarked
            rw [q2, if_neg (fun z => hbc ((nI_ltI (by omega) (by omega)).mp z)), if_pos ((nI_ltI (by omega) (by omega)).mpr q1), setM_1 P Q (show b < 4 by omega), nI_1]
            rfl
          have hnl : ¬ nI d - 48 ≤ nI c - 1 := by
            rw [q2]
            rcases Nat.eq_zero_or_pos c with z | z
            · rw [z]
              intro z2
              rw [Int32.le_iff_toInt_le, nI_toInt (by omega)] at z2
              have : (nI 0 - 1).toInt = -1 := by decide
              omega
            · rw [show (1 : Int32) = nI 1 from rfl, pk_sub z]
              exact nI_nge4 (by omega) (by omega) (by omega)
          rw [hm, if_neg (show ¬ (1 : Int32) = 0 by decide), q4, if_neg (show ¬ (1 : Int32) = 0 by decide), if_neg hnl]
          unfold f_X9_takesMark
          rw [if_pos (show nI (stg 8) = 8 from rfl), if_neg h, if_neg (show ¬ (1 : Int32) = 0 by decide), if_pos (show nI (stg 8) = 8 from rfl), Option.bind_some, if_neg (show ¬ nI (stg 8) = 9 by decide), kbl_1, Option.bind_some, q2, or_bit P (show b < 4 by omega), Int32.or_zero]
          exact .inr ⟨_, _, _, _, _, _, _, _, _, _, _, _, _, _, _, _, rfl, rfl, 8, kk, w, a, b + 1, R, (fun i => P i || decide (i = b)), Q, by omega, rfl, rfl, fun _ => hk (by omega), fun _ => ⟨w1, w4, rfl, rfl⟩, fun h => by omega, ⟨by omega, fun h => by omega, fun _ => rfl, by rw [dn_1]⟩, rfl, hna, rfl, rfl, rfl, rfl, fun _ => ⟨i1, in_or i2 q1, i3⟩, fun h => by omega⟩
      · rw [marked_0 w4 hc4 _ _ _ _ q3, if_pos rfl, sign_f h, if_pos rfl, q4, if_pos rfl]
        unfold f_X9_takesMark
        rw [if_pos (show nI (stg 8) = 8 from rfl), if_neg h, if_pos rfl, kbl_0, Option.bind_some]
        exact .inl ⟨_, _, rfl, rfl⟩
  · -- worlds marked q
    rw [if_neg (show ¬ nI 9 = 0 by decide), if_neg (show ¬ nI 9 = 1 by decide), if_neg (show ¬ nI 9 = 2 by decide), if_neg (show ¬ nI 9 = 3 by decide), if_neg (show ¬ nI 9 = 4 by decide), if_neg (show ¬ nI 9 = 5 by decide), if_neg (show ¬ nI 9 = 6 by decide), if_neg (show ¬ nI 9 = 7 by decide), if_neg (show ¬ nI 9 = 8 by decide), if_neg (show ¬ nI (stg 9) = 0 by decide), if_neg (show ¬ nI (stg 9) = 1 by decide), if_neg (show ¬ nI (stg 9) = 2 by decide), if_neg (show ¬ nI (stg 9) = 3 by decide), if_neg (show ¬ nI (stg 9) = 4 by decide), if_neg (show ¬ nI (stg 9) = 5 by decide), if_neg (show ¬ nI (stg 9) = 6 by decide), if_neg (show ¬ nI (stg 9) = 7 by decide)]
    simp only [k_let]
    obtain ⟨w1, w4, rfl, rfl⟩ := hw (by omega)
    have hle := hc8 (by omega)
    subst hle
    obtain ⟨i1, i2, i3⟩ := hin (by omega)
    rcases idx_e (nI d - 48) (w_lt w4) with ⟨b, q1, q2, q3, q4⟩ | ⟨q3, q4⟩
    · by_cases hbc : b < c
      · have hm : f_X3_readsMarked (nI c) (nI w) (bI 4 P) (bI 4 Q) (nI d) 2 = (0, nI c, bI 4 P, bI 4 Q) := by
          unfold f_X3_readsMarked
          rw [q2, if_pos ((nI_ltI (by omega) (by omega)).mpr hbc)]
        rw [hm, q4, if_neg (show ¬ (1 : Int32) = 0 by decide), if_pos (show nI d - 48 ≤ nI c - 1 by rw [q2, show (1 : Int32) = nI 1 from rfl, pk_sub (show 1 ≤ c by omega)]; exact nI_ge4 (by omega) (by omega) (by omega))]
        unfold f_X9_takesMark
        rw [if_neg (show ¬ nI (stg 9) = 8 by decide), if_pos rfl, kbl_0, kbl_0, Option.bind_some]
        exact .inl ⟨_, _, rfl, rfl⟩
      · have hm : f_X3_readsMarked (nI c) (nI w) (bI 4 P) (bI 4 Q) (nI d) 2 = (1, nI (b + 1), bI 4 P, bI 4 (fun i => Q i || decide (i = b))) := by
          unfold f_X3_readsMarked
          rw [q2, if_neg (fun z => hbc ((nI_ltI (by omega) (by omega)).mp z)), if_pos ((nI_ltI (by omega) (by omega)).mpr q1), setM_2 P Q (show b < 4 by omega), nI_1]
          rfl
        have hnl : ¬ nI d - 48 ≤ nI c - 1 := by
          rw [q2]
          rcases Nat.eq_zero_or_pos c with z | z
          · rw [z]
            intro z2
            rw [Int32.le_iff_toInt_le, nI_toInt (by omega)] at z2
            have : (nI 0 - 1).toInt = -1 := by decide
            omega
          · rw [show (1 : Int32) = nI 1 from rfl, pk_sub z]
            exact nI_nge4 (by omega) (by omega) (by omega)
        rw [hm, q4, if_neg (show ¬ (1 : Int32) = 0 by decide), if_neg hnl]
        unfold f_X9_takesMark
        rw [if_neg (show ¬ nI (stg 9) = 8 by decide), if_neg (show ¬ (1 : Int32) = 0 by decide), if_neg (show ¬ nI (stg 9) = 8 by decide), Option.bind_some, if_pos (show nI (stg 9) = 9 from rfl), kbl_1, kbl_1, Option.bind_some, q2, or_bit Q (show b < 4 by omega), Int32.or_zero]
        exact .inr ⟨_, _, _, _, _, _, _, _, _, _, _, _, _, _, _, _, rfl, rfl, 9, kk, w, a, b + 1, R, P, (fun i => Q i || decide (i = b)), by omega, rfl, rfl, fun _ => hk (by omega), fun _ => ⟨w1, w4, rfl, rfl⟩, fun h => by omega, ⟨by omega, fun h => by omega, fun _ => rfl, by rw [dn_1]⟩, rfl, hna, rfl, rfl, rfl, rfl, fun _ => ⟨i1, i2, in_or i3 q1⟩, fun h => by omega⟩
    · rw [marked_0 w4 hc4 _ _ _ _ q3, q4, if_pos rfl]
      unfold f_X9_takesMark
      rw [if_neg (show ¬ nI (stg 9) = 8 by decide), if_pos rfl, kbl_0, kbl_0, Option.bind_some]
      exact .inl ⟨_, _, rfl, rfl⟩
