/-! close by turns -/
theorem isJoined_e {w : Nat} (hw : w ≤ 4) {S : Nat → Nat → Bool} {f : Nat → Int32} (hf : ba f S) {a b : Nat} (ha : a < 4) (hb : b < 4) : f_X9_isJoined (nI w) f (nI a) (nI b) = some (bi ((List.range w).any (fun c => S a c && S c b))) := by
  unfold f_X9_isJoined
  refine k_runG (N := 1000) (fun (o : Option Int32) => o = some (bi ((List.range w).any (fun c => S a c && S c b)))) w (fun (k : Nat) (s : Int32 × Int32) => s.2 = nI k ∧ s.1 = bi ((List.range k).any (fun c => S a c && S c b))) (by omega) ⟨rfl, rfl⟩ ?_ ?_ ?_
  · intro rc k s hk hI
    obtain ⟨h1, h2⟩ := hI
    refine ⟨(bi ((List.range (k + 1)).any (fun c => S a c && S c b)), nI (k + 1)), ⟨rfl, rfl⟩, ?_⟩
    try dsimp only
    rw [h1, h2, if_neg (nI_nge4 (by omega) (by omega) hk), nI_mul4, nI_mul4, chk_e (show 4 * a + k < 16 by omega) (by omega), chk_e (show 4 * k + b < 16 by omega) (by omega), cl_e (show 4 * a + k < 2 ^ 31 by omega), cl_e (show 4 * k + b < 2 ^ 31 by omega), ba_get hf ha (show k < 4 by omega), ba_get hf (show k < 4 by omega) hb, nI_1, any_s]
    cases (List.range k).any (fun c => S a c && S c b)
    · cases S a k <;> cases S k b <;> rfl
    · cases S a k <;> cases S k b <;> rfl
  · intro rc s hI
    try dsimp only
    rw [hI.1, if_pos (nI_ge4 (by omega) (by omega) (Nat.le_refl w))]
  · intro s hI
    rw [hI.2]
    exact bl_b _ _
theorem wn_1 (w : Nat) (S : Nat → Nat → Bool) (a b : Nat) : wn 1 w S a b = decide (a = b) := rfl
theorem wn_2 (w : Nat) (S : Nat → Nat → Bool) (a b : Nat) : wn 2 w S a b = (decide (a = b) || (List.range w).any (fun c => S a c && S c b)) := rfl
theorem wn_3 (w : Nat) (S : Nat → Nat → Bool) (a b : Nat) : wn 3 w S a b = S b a := rfl
theorem wn_4 (w : Nat) (S : Nat → Nat → Bool) (a b : Nat) : wn 4 w S a b = (decide (a = b) && !(List.range w).any (S a)) := rfl
theorem bi_0 (b : Bool) : (bi b = 0) ↔ b = false := b01 b
theorem wants_e {kk w : Nat} (hk : kk < 5) (hw : w ≤ 4) {S : Nat → Nat → Bool} {f : Nat → Int32} (hf : ba f S) {a b : Nat} (ha : a < 4) (hb : b < 4) : f_X9_wants (nI kk) (nI w) f (nI a) (nI b) = some (bi (wn kk w S a b)) := by
  unfold f_X9_wants
  have hab : (nI a = nI b) ↔ a = b := nI_eq (by omega) (by omega)
  rcases (by omega : kk = 0 ∨ kk = 1 ∨ kk = 2 ∨ kk = 3 ∨ kk = 4) with rfl | rfl | rfl | rfl | rfl
  · rw [if_neg (by decide), if_neg (by decide), if_neg (by decide), if_neg (by decide)]
    rfl
  · rw [if_pos (show nI 1 = 1 from rfl)]
    rw [wn_1]
    by_cases h : a = b
    · rw [if_pos (hab.mpr h), decide_eq_true h]; rfl
    · rw [if_neg (fun q => h (hab.mp q)), decide_eq_false h]; rfl
  · rw [if_neg (by decide), if_pos (show nI 2 = 2 from rfl), isJoined_e hw hf ha hb, Option.bind_some]
    rw [wn_2]
    by_cases h : a = b
    · rw [if_pos (hab.mpr h), decide_eq_true h]; rfl
    · rw [if_neg (fun q => h (hab.mp q)), decide_eq_false h]
      cases (List.range w).any (fun c => S a c && S c b) <;> rfl
  · rw [if_neg (by decide), if_neg (by decide), if_pos (show nI 3 = 3 from rfl), nI_mul4, chk_e (show 4 * b + a < 16 by omega) (by omega), cl_e (show 4 * b + a < 2 ^ 31 by omega), ba_get hf hb ha]
    rw [wn_3]
    exact bl_b _ _
  · rw [if_neg (by decide), if_neg (by decide), if_neg (by decide), if_pos (show nI 4 = 4 from rfl), goOut_e hf hw ha, Option.bind_some]
    rw [wn_4]
    by_cases h : a = b
    · rw [if_pos (hab.mpr h), decide_eq_true h, Bool.true_and]
      have hle := fb_ct_le (S a) w
      cases h5 : (List.range w).any (S a)
      · have h6 : fb_ct (S a) w = 0 := fb_ct_zero.mpr (fun c hc => by
          cases h7 : S a c
          · rfl
          · rw [any_i.mpr ⟨c, hc, h7⟩] at h5; cases h5)
        rw [h6, if_pos (show nI 0 = 0 from rfl)]; rfl
      · obtain ⟨c, hc, h7⟩ := any_i.mp h5
        have h6 : 0 < fb_ct (S a) w := fb_ct_pos.mpr ⟨c, hc, h7⟩
        rw [if_neg (nI_ne0 (by omega) (by omega))]; rfl
    · rw [if_neg (fun q => h (hab.mp q)), decide_eq_false h]; rfl
def up1 (S : Nat → Nat → Bool) (a b : Nat) : Nat → Nat → Bool := fun x y => S x y || (decide (x = a) && decide (y = b))
theorem up1_e {S : Nat → Nat → Bool} {a b x y : Nat} : up1 S a b x y = true ↔ S x y = true ∨ (x = a ∧ y = b) := by
  unfold up1
  rw [Bool.or_eq_true, Bool.and_eq_true, decide_eq_true_eq, decide_eq_true_eq]
theorem ba_up1 {f : Nat → Int32} {S : Nat → Nat → Bool} (h : ba f S) {a b : Nat} (ha : a < 4) (hb : b < 4) : ba (upd f (4 * a + b) (bi true)) (up1 S a b) := ba_mk (fun x y hx hy => by
  by_cases g : x = a ∧ y = b
  · rw [g.1, g.2, pk_us, (up1_e (S := S)).mpr (.inr ⟨rfl, rfl⟩)]
  · rw [pk_un (show 4 * x + y ≠ 4 * a + b by omega), ba_get h hx hy]
    congr 1
    rw [Bool.eq_iff_iff, up1_e]
    exact ⟨fun q => .inl q, fun q => q.resolve_right g⟩)
theorem ba_same {f : Nat → Int32} {S : Nat → Nat → Bool} (h : ba f S) {a b : Nat} (ha : a < 4) (hb : b < 4) (v : Bool) (hv : S a b = v) : ba (upd f (4 * a + b) (bi v)) S := ba_mk (fun x y hx hy => by
  by_cases g : x = a ∧ y = b
  · rw [g.1, g.2, pk_us, hv]
  · rw [pk_un (show 4 * x + y ≠ 4 * a + b by omega), ba_get h hx hy])
theorem apC_1 {S : Nat → Nat → Bool} {a b : Nat} (ha : a < 4) (hb : b < 4) (h : S a b = false) : apC (up1 S a b) = apC S + 1 := by
  have e1 : fb_ct (fun k => if k = 4 * a + b then true else S (k / 4) (k % 4)) 16 + (if S ((4 * a + b) / 4) ((4 * a + b) % 4) then 1 else 0) = fb_ct (fun k => S (k / 4) (k % 4)) 16 + (if true then 1 else 0) := fb_ct_upd (fun k => S (k / 4) (k % 4)) true (i := 4 * a + b) (n := 16) (by omega)
  rw [show (4 * a + b) / 4 = a by omega, show (4 * a + b) % 4 = b by omega, h] at e1
  have e2 : fb_ct (fun k => if k = 4 * a + b then true else S (k / 4) (k % 4)) 16 = apC (up1 S a b) := by
    refine fb_ct_cong (fun k hk => ?_)
    by_cases h2 : k = 4 * a + b
    · rw [if_pos h2, up1_e.mpr (.inr ⟨by omega, by omega⟩)]
    · rw [if_neg h2, Bool.eq_iff_iff, up1_e]
      exact ⟨fun q => .inl q, fun q => q.resolve_right (fun z => h2 (by omega))⟩
  rw [← e2]
  unfold apC
  simp only [if_neg (show ¬ (false = true) by decide), if_true] at e1
  omega
def clo (kk w : Nat) (S : Nat → Nat → Bool) : Prop := ∀ a b, a < w → b < w → S a b = false → wn kk w S a b = false
def clI (R T S : Nat → Nat → Bool) : Prop := (∀ a b, R a b = true → S a b = true) ∧ ∀ a b, S a b = true → T a b = true
/-- in turn t, so far as pair j -/
def clJ (kk w t j : Nat) (S : Nat → Nat → Bool) : Prop := clo kk w S ∨ t + 1 ≤ apC S ∨ (t ≤ apC S ∧ ∀ i, i < j → S (i / w) (i % w) = false → wn kk w S (i / w) (i % w) = false)
theorem clJ_step {kk w t j : Nat} (hw : w ≤ 4) {R T S : Nat → Nat → Bool} (hT : clG kk w R T) (hj : j < w * w) (hI : clI R T S) (hJ : clJ kk w t j S) {f : Nat → Int32} (hf : ba f S) :
    (S (j / w) (j % w) = true ∧ ∃ S', ba (upd f (4 * (j / w) + j % w) (bi true)) S' ∧ clI R T S' ∧ clJ kk w t (j + 1) S') ∨
    (S (j / w) (j % w) = false ∧ ∃ S', ba (upd f (4 * (j / w) + j % w) (bi (wn kk w S (j / w) (j % w)))) S' ∧ clI R T S' ∧ clJ kk w t (j + 1) S') := by
  have hw0 : 0 < w := by
    rcases Nat.eq_zero_or_pos w with q | q
    · subst q; simp at hj
    · exact q
  have ha : j / w < w := (Nat.div_lt_iff_lt_mul hw0).mpr hj
  have hb : j % w < w := Nat.mod_lt _ hw0
  have next : ∀ S : Nat → Nat → Bool, (S (j / w) (j % w) = false → wn kk w S (j / w) (j % w) = false) → clJ kk w t j S → clJ kk w t (j + 1) S := fun S h q => by
    rcases q with q | q | ⟨q1, q2⟩
    · exact .inl q
    · exact .inr (.inl q)
    · refine .inr (.inr ⟨q1, fun i hi => ?_⟩)
      by_cases g : i = j
      · rw [g]; exact h
      · exact q2 i (by omega)
  cases hs : S (j / w) (j % w)
  · refine .inr ⟨rfl, ?_⟩
    cases hwn : wn kk w S (j / w) (j % w)
    · exact ⟨S, ba_same hf (by omega) (by omega) false hs, hI, next S (fun _ => hwn) hJ⟩
    · refine ⟨up1 S (j / w) (j % w), ba_up1 hf (by omega) (by omega), ⟨fun a b h => up1_e.mpr (.inl (hI.1 a b h)), fun a b h => ?_⟩, ?_⟩
      · rcases up1_e.mp h with h | ⟨rfl, rfl⟩
        · exact hI.2 a b h
        · exact hT.2.2.1 S hI.1 hI.2 _ _ ha hb hwn
      · have hc := apC_1 (S := S) (a := j / w) (b := j % w) (by omega) (by omega) hs
        rcases hJ with q | q | ⟨q1, q2⟩
        · rw [q _ _ ha hb hs] at hwn; cases hwn
        · exact .inr (.inl (by omega))
        · exact .inr (.inl (by omega))
  · exact .inl ⟨rfl, S, ba_same hf (by omega) (by omega) true hs, hI, next S (fun h => by rw [hs] at h; cases h) hJ⟩
theorem clJ_end {kk w t : Nat} {S : Nat → Nat → Bool} (h : clJ kk w t (w * w) S) : clo kk w S ∨ t + 1 ≤ apC S := by
  rcases h with h | h | ⟨h1, h2⟩
  · exact .inl h
  · exact .inr h
  · refine .inl (fun a b ha hb => ?_)
    have h3 := h2 (a * w + b) (by
      have : (a + 1) * w ≤ w * w := Nat.mul_le_mul_right w ha
      rw [Nat.add_mul] at this
      omega)
    have e1 : (a * w + b) / w = a := by rw [Nat.mul_comm, Nat.mul_add_div (by omega), Nat.div_eq_of_lt hb, Nat.add_zero]
    have e2 : (a * w + b) % w = b := by rw [Nat.mul_comm, Nat.mul_add_mod, Nat.mod_eq_of_lt hb]
    rw [e1, e2] at h3
    exact h3
theorem turns_e {kk w : Nat} (hk : kk < 5) (hw : w ≤ 4) (hw0 : 0 < w) {R T : Nat → Nat → Bool} (hR : ∀ a b, R a b = true → a < w ∧ b < w) (hT : clG kk w R T) {f : Nat → Int32} (hf : ba f R) : ∃ f', f_X9_close (nI kk) (nI w) f = some (nI (apC T) - nI (apC R), f') ∧ ba f' T := by
  unfold f_X9_close
  rw [isFrame_e (w_lt hw), if_neg (show ¬ w = 0 by omega)]
  simp only [i10, if_false]
  rw [allArrows_e hf, Option.bind_some]
  have hww : w * w ≤ 16 := Nat.mul_le_mul hw hw
  refine k_runG (N := 1000) (fun (o : Option (Int32 × (Nat → Int32))) => ∃ f', o = some (nI (apC T) - nI (apC R), f') ∧ ba f' T) 16 (fun (t : Nat) (s : Int32 × (Nat → Int32)) => s.1 = nI t ∧ ∃ S, ba s.2 S ∧ clI R T S ∧ (clo kk w S ∨ t ≤ apC S)) (by omega) ⟨rfl, R, hf, ⟨fun _ _ h => h, hT.1⟩, .inr (Nat.zero_le _)⟩ ?_ ?_ ?_
  · intro rc t s ht hI
    obtain ⟨h1, S, h2, h3, h4⟩ := hI
    try dsimp only
    rw [h1, if_neg (show ¬ (16 : Int32) ≤ nI t from nI_nge4 (a := 16) (by omega) (by omega) ht), pk_mul]
    refine k_runG (N := 1000) (a0 := (0, s.2)) (fun (o : Option (Int32 × (Nat → Int32))) => ∃ a', (a'.1 = nI (t + 1) ∧ ∃ S, ba a'.2 S ∧ clI R T S ∧ (clo kk w S ∨ t + 1 ≤ apC S)) ∧ o = rc a') (w * w) (fun (j : Nat) (u : Int32 × (Nat → Int32)) => u.1 = nI j ∧ ∃ S, ba u.2 S ∧ clI R T S ∧ clJ kk w t j S) (by omega) ⟨rfl, S, h2, h3, h4.imp id (fun q => .inr ⟨q, fun i h => absurd h (Nat.not_lt_zero i)⟩)⟩ ?_ ?_ ?_
    · intro rc2 j u hj hI2
      obtain ⟨g1, S, g2, g3, g4⟩ := hI2
      have ha : j / w < w := (Nat.div_lt_iff_lt_mul hw0).mpr hj
      have hb : j % w < w := Nat.mod_lt _ hw0
      try dsimp only
      rw [g1, if_neg (nI_nge4 (by omega) (by omega) hj), pk_rem (show j < 2 ^ 31 by omega) hw0 (by omega), pk_div (show j < 2 ^ 31 by omega) hw0 (by omega), nz_e hw0 (by omega), nz_e hw0 (by omega), nI_mul4, cl_e (show 4 * (j / w) + j % w < 2 ^ 31 by omega), chk_e (show 4 * (j / w) + j % w < 16 by omega) (by omega), chk_e (show 4 * (j / w) + j % w < 16 by omega) (by omega), ba_get g2 (show j / w < 4 by omega) (show j % w < 4 by omega), wants_e hk hw g2 (show j / w < 4 by omega) (show j % w < 4 by omega), Option.bind_some, nI_1, show vp_nar .boolean 0 = bi false from rfl, show vp_nar .boolean 1 = bi true from rfl]
      rcases clJ_step hw hT hj g3 g4 g2 with ⟨e1, S', e2, e3, e4⟩ | ⟨e1, S', e2, e3, e4⟩
      · rw [e1, if_neg (show ¬ bi true = 0 by decide)]
        try rw [chk_e (show 4 * (j / w) + j % w < 16 by omega) (by omega)]
        exact ⟨_, ⟨rfl, S', e2, e3, e4⟩, rfl⟩
      · rw [e1, if_pos (show bi false = 0 from rfl)]
        cases hwn : wn kk w S (j / w) (j % w)
        · rw [if_pos (show bi false = 0 from rfl)]
          try rw [chk_e (show 4 * (j / w) + j % w < 16 by omega) (by omega)]
          rw [hwn] at e2
          exact ⟨_, ⟨rfl, S', e2, e3, e4⟩, rfl⟩
        · rw [if_neg (show ¬ bi true = 0 by decide)]
          try rw [chk_e (show 4 * (j / w) + j % w < 16 by omega) (by omega)]
          rw [hwn] at e2
          exact ⟨_, ⟨rfl, S', e2, e3, e4⟩, rfl⟩
    · intro rc2 u hI2
      try dsimp only
      rw [hI2.1, if_pos (nI_ge4 (by omega) (by omega) (Nat.le_refl _))]
    · intro u hI2
      obtain ⟨g1, S, g2, g3, g4⟩ := hI2
      refine ⟨_, ⟨?_, S, ?_, g3, clJ_end g4⟩, rfl⟩
      · try dsimp only
        rw [nI_1]
      · exact g2
  · intro rc s hI
    try dsimp only
    rw [hI.1, if_pos (show (16 : Int32) ≤ nI 16 from nI_ge4 (a := 16) (by omega) (by omega) (Nat.le_refl 16))]
  · intro s hI
    obtain ⟨h1, S, h2, h3, h4⟩ := hI
    have hc : clo kk w S := by
      rcases h4 with h4 | h4
      · exact h4
      · intro a b ha hb hs
        have h5 : apC S = 16 := by
          have := fb_ct_le (fun k => S (k / 4) (k % 4)) 16
          unfold apC at h4 ⊢
          omega
        have h6 := fb_ct_all.mp h5 (4 * a + b) (by omega)
        try dsimp only at h6
        rw [show (4 * a + b) / 4 = a by omega, show (4 * a + b) % 4 = b by omega, hs] at h6
        cases h6
    have hST : ∀ a b, S a b = T a b := fun a b => by
      rw [Bool.eq_iff_iff]
      exact ⟨h3.2 a b, hT.2.2.2 S h3.1 h3.2 hc a b⟩
    have hbT : ba s.2 T := ba_congr (fun a b _ _ => hST a b) h2
    rw [allArrows_e hbT, Option.bind_some]
    exact ⟨_, rfl, hbT⟩
theorem st_close {k1 w1 A p q k2 w2 : Int32} {arr mk : Nat → Int32} (h : RF k1 w1 A p q k2 w2 arr mk) : ∃ r A' arr', f_X8_close k1 w1 A = some (r, A') ∧ f_X9_close k2 w2 arr = some (r, arr') ∧ RF k1 w1 A' p q k2 w2 arr' mk := by
  have h0 := h
  obtain ⟨kk, w, R, P, Q, hk, ok, rfl, rfl, rfl, rfl, rfl, rfl, rfl, hb, hm⟩ := h
  unfold f_X8_close
  rw [hasFrame_e (w_lt ok.1)]
  by_cases hw : w = 0
  · rw [if_pos hw]; simp only [i00, if_true]
    unfold f_X9_close
    rw [isFrame_e (w_lt ok.1), if_pos hw]
    exact ⟨_, _, _, rfl, rfl, h0⟩
  · rw [if_neg hw]; simp only [i10, if_false]
    obtain ⟨T, e1, e2⟩ := makeFit_e hk ok.1 ok.2.1
    obtain ⟨f', e3, e4⟩ := turns_e hk ok.1 (show 0 < w by omega) ok.2.1 e2 hb
    rw [e1, Option.bind_some, e3, arrowCount_e, arrowCount_e]
    exact ⟨_, _, _, rfl, rfl, kk, w, T, P, Q, hk, ⟨ok.1, e2.2.1, ok.2.2⟩, rfl, rfl, rfl, rfl, rfl, rfl, rfl, e4, hm⟩
