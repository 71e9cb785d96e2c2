theorem copyZ2 {β : Type} {src dst src2 dst2 : Nat → Int32} {n : Nat} (hn : n < 1000) (ex : Int32 × (Nat → Int32) × (Nat → Int32) → Option β) (g : Int32 → Int32) (N : Int32) (hN : N = nI n) :
    k_it (fun (ex95 rc95 : (Int32 × (Nat → Int32) × (Nat → Int32)) → Option β) (a95 : Int32 × (Nat → Int32) × (Nat → Int32)) => (if N ≤ a95.1 then ex95 (a95.1, a95.2.1, a95.2.2) else k_chk a95.1 n (k_chk a95.1 n (k_chk a95.1 n (k_chk a95.1 n (rc95 ((a95.1 + 1), (upd a95.2.1 (Int32.toNatClampNeg a95.1) (src (Int32.toNatClampNeg a95.1))), (upd a95.2.2 (Int32.toNatClampNeg a95.1) (g (src2 (Int32.toNatClampNeg a95.1))))))))))) ex 1000 (0, dst, dst2) = ex (nI n, (fun j => if j < n then src j else dst j), fun j => if j < n then g (src2 j) else dst2 j) := by
  subst hN
  have h := k_for (N := 1000) (b := (fun (ex95 rc95 : (Int32 × (Nat → Int32) × (Nat → Int32)) → Option β) (a95 : Int32 × (Nat → Int32) × (Nat → Int32)) => (if nI n ≤ a95.1 then ex95 (a95.1, a95.2.1, a95.2.2) else k_chk a95.1 n (k_chk a95.1 n (k_chk a95.1 n (k_chk a95.1 n (rc95 ((a95.1 + 1), (upd a95.2.1 (Int32.toNatClampNeg a95.1) (src (Int32.toNatClampNeg a95.1))), (upd a95.2.2 (Int32.toNatClampNeg a95.1) (g (src2 (Int32.toNatClampNeg a95.1)))))))))))) (ex := ex) n (fun k => (nI k, (fun j => if j < k then src j else dst j), fun j => if j < k then g (src2 j) else dst2 j)) (by
    intro rc k hk
    try dsimp only
    rw [if_neg (nI_nge4 (by omega) (by omega) hk), chk_e hk (by omega), chk_e hk (by omega), chk_e hk (by omega), chk_e hk (by omega), cl_e (show k < 2 ^ 31 by omega), nI_1]
    have e : ∀ (s d : Nat → Int32), upd (fun j => if j < k then s j else d j) k (s k) = fun j => if j < k + 1 then s j else d j := fun s d => fun_upd (fun j => by
      by_cases q : j = k
      · rw [q, pk_us, if_pos (show k < k + 1 by omega)]
      · rw [pk_un q]
        by_cases q2 : j < k
        · rw [if_pos q2, if_pos (show j < k + 1 by omega)]
        · rw [if_neg q2, if_neg (show ¬ j < k + 1 by omega)])
    rw [e src dst, e (fun j => g (src2 j)) dst2]) (by
    intro rc
    try dsimp only
    rw [if_pos (nI_ge4 (by omega) (by omega) (Nat.le_refl n))]) (by omega)
  have e1 : (fun j => if j < 0 then src j else dst j) = dst := fun_upd (fun j => if_neg (Nat.not_lt_zero j))
  have e2 : (fun j => if j < 0 then g (src2 j) else dst2 j) = dst2 := fun_upd (fun j => if_neg (Nat.not_lt_zero j))
  rw [e1, e2] at h
  exact h
def RSv (F K : Nat) (sv kf s1 s2 s3 s4 s5 sn sp k1 k2 ks : Int32) (ka km kh kc : Nat → Int32) : Prop := kf = nI K ∧ K ≤ F ∧ ((sv = 0 ∧ (K = 0 ∨ K < F)) ∨ (sv = 1 ∧ K ≠ 0 ∧ K = F ∧ RF s1 s2 s3 s4 s5 k1 k2 ka km ∧ ROb sn sp ks kh kc))
theorem ba_copy {f d : Nat → Int32} {R : Nat → Nat → Bool} (h : ba f R) : ba (fun j => if j < 16 then vp_nar .boolean (f j) else d j) R := ba_mk (fun x y hx hy => by
  try dsimp only
  rw [if_pos (show 4 * x + y < 16 by omega), ba_get h hx hy, nar_bi])
theorem mks_copy {f d : Nat → Int32} {P Q : Nat → Bool} (h : mks f P Q) : mks (fun j => if j < 4 then f j else d j) P Q := fun x hx => by
  try dsimp only
  rw [if_pos hx, h x hx]
theorem ROb_copy {num poss seen : Int32} {what can d1 d2 : Nat → Int32} (h : ROb num poss seen what can) : ROb num poss seen (fun j => if j < 6 then what j else d1 j) (fun j => if j < 6 then vp_nar .boolean (can j) else d2 j) := by
  obtain ⟨n, wh, cn, hn, h1, h2, hi, h3⟩ := h
  refine ⟨n, wh, cn, hn, h1, h2, fun i hi2 => ?_, h3⟩
  obtain ⟨t1, t2, t3⟩ := hi i hi2
  try dsimp only
  rw [if_pos (show i < 6 by omega), if_pos (show i < 6 by omega), t2, t3, nar_bi]
  exact ⟨t1, rfl, rfl⟩
theorem st_image {F K : Nat} {k1 w1 A p q k2 w2 : Int32} {arr mk : Nat → Int32} (h : RF k1 w1 A p q k2 w2 arr mk) {num poss seen : Int32} {what can : Nat → Int32} (ho : ROb num poss seen what can) (hwF : w1 = 0 ∨ F ≠ 0) {sv kf s1 s2 s3 s4 s5 sn sp l1 l2 ks : Int32} {ka km kh kc : Nat → Int32} (hs : RSv F K sv kf s1 s2 s3 s4 s5 sn sp l1 l2 ks ka km kh kc) :
    ∃ r K' sv' kf' s1' s2' s3' s4' s5' sn' sp' l1' l2' ks' ka' km' kh' kc', f_X8_image sv k1 w1 A p q num poss s1 s2 s3 s4 s5 sn sp = (r, sv', s1', s2', s3', s4', s5', sn', sp') ∧ f_X9_image k2 w2 (nI F) seen kf l1 l2 ks arr mk what can ka km kh kc = some (r, kf', l1', l2', ks', ka', km', kh', kc') ∧ RSv F K' sv' kf' s1' s2' s3' s4' s5' sn' sp' l1' l2' ks' ka' km' kh' kc' := by
  have h0 := h
  obtain ⟨kk, w, R, P, Q, hk, ok, rfl, rfl, rfl, rfl, rfl, rfl, rfl, hb, hm⟩ := h
  unfold f_X9_image f_X8_image
  rw [hasFrame_e (w_lt ok.1), isFrame_e (w_lt ok.1)]
  by_cases hw : w = 0
  · rw [if_pos hw]; simp only [i00, if_true]
    exact ⟨_, K, _, _, _, _, _, _, _, _, _, _, _, _, _, _, _, _, rfl, rfl, hs⟩
  · rw [if_neg hw]; simp only [i10, if_false]
    have hF : F ≠ 0 := hwF.resolve_left (nI_ne0 (by omega) (w_lt ok.1))
    rw [copyZ (n := 16) (by omega) _ (fun x => vp_nar .boolean x) 16 rfl]
    try dsimp only
    rw [copyZ (n := 4) (by omega) _ (fun x => x) 4 rfl]
    try dsimp only
    rw [copyZ2 (n := 6) (by omega) _ (fun x => vp_nar .boolean x) 6 rfl]
    try dsimp only
    exact ⟨_, F, _, _, _, _, _, _, _, _, _, _, _, _, _, _, _, _, rfl, rfl, rfl, Nat.le_refl F, .inr ⟨rfl, hF, rfl, ⟨kk, w, R, P, Q, hk, ok, rfl, rfl, rfl, rfl, rfl, rfl, rfl, ba_copy hb, mks_copy hm⟩, ROb_copy ho⟩⟩
theorem st_restore {F K : Nat} (hF : F < 2 ^ 31) {k1 w1 A p q k2 w2 : Int32} {arr mk : Nat → Int32} (h : RF k1 w1 A p q k2 w2 arr mk) {num poss seen : Int32} {what can : Nat → Int32} (ho : ROb num poss seen what can) {sv kf s1 s2 s3 s4 s5 sn sp l1 l2 ks : Int32} {ka km kh kc : Nat → Int32} (hs : RSv F K sv kf s1 s2 s3 s4 s5 sn sp l1 l2 ks ka km kh kc) :
    ∃ r k1' w1' A' p' q' num' poss' k2' w2' seen' arr' mk' what' can', f_X8_restore sv k1 w1 A p q num poss s1 s2 s3 s4 s5 sn sp = (r, k1', w1', A', p', q', num', poss') ∧ f_X9_restore k2 w2 (nI F) seen kf l1 l2 ks arr mk what can ka km kh kc = some (r, k2', w2', seen', arr', mk', what', can') ∧ RF k1' w1' A' p' q' k2' w2' arr' mk' ∧ ROb num' poss' seen' what' can' ∧ (w1' = w1 ∨ F ≠ 0) := by
  obtain ⟨rfl, hKF, hs⟩ := hs
  unfold f_X9_restore f_X8_restore
  rcases hs with ⟨rfl, hs⟩ | ⟨rfl, hs1, rfl, hs2, hs3⟩
  · rw [if_pos rfl]
    by_cases hK : K = 0
    · subst hK
      rw [if_pos (show nI 0 = 0 from rfl)]
      exact ⟨_, _, _, _, _, _, _, _, _, _, _, _, _, _, _, rfl, rfl, h, ho, .inl rfl⟩
    · rw [if_neg (nI_ne0 (by omega) (by omega)), if_neg (nI_ne (by omega) hF (by omega))]
      exact ⟨_, _, _, _, _, _, _, _, _, _, _, _, _, _, _, rfl, rfl, h, ho, .inl rfl⟩
  · rw [if_neg (show ¬ (1 : Int32) = 0 by decide), if_neg (nI_ne0 (by omega) (by omega)), if_pos rfl]
    rw [copyZ (n := 16) (by omega) _ (fun x => vp_nar .boolean x) 16 rfl]
    try dsimp only
    rw [copyZ (n := 4) (by omega) _ (fun x => x) 4 rfl]
    try dsimp only
    rw [copyZ2 (n := 6) (by omega) _ (fun x => vp_nar .boolean x) 6 rfl]
    try dsimp only
    obtain ⟨kk, w, R, P, Q, hk, ok, rfl, rfl, rfl, rfl, rfl, rfl, rfl, hb, hm⟩ := hs2
    exact ⟨_, _, _, _, _, _, _, _, _, _, _, _, _, _, _, rfl, rfl, ⟨kk, w, R, P, Q, hk, ok, rfl, rfl, rfl, rfl, rfl, rfl, rfl, ba_copy hb, mks_copy hm⟩, ROb_copy hs3, .inr hs1⟩
/-! the page -/
def RPg (len : Int32) (codes : Nat → Int32) (plen : Int32) (page : Nat → Int32) : Prop := ∃ (l : Nat) (c : Nat → Nat), l ≤ 66 ∧ len = nI l ∧ plen = nI l ∧ ∀ i, i < l → 32 ≤ c i ∧ c i ≤ 126 ∧ codes i = nI (c i) ∧ page i = nI (c i)
theorem byteK : ∀ c, c < 128 → vp_nar .byte (Int8.toInt32 (Int32.toInt8 (nI c))) = nI c ∧ vp_nar .byte (nI c) = nI c := by decide +kernel
theorem code_e (x : Int32) : (∃ c, 32 ≤ c ∧ c ≤ 126 ∧ x = nI c ∧ ¬ x < 32 ∧ x ≤ 126 ∧ f_X9_within x 32 126 = 1) ∨ ((x < 32 ∨ ¬ x ≤ 126) ∧ f_X9_within x 32 126 = 0) := by
  unfold f_X9_within
  by_cases h1 : x < 32
  · exact Or.inr ⟨.inl h1, if_pos h1⟩
  · have h0 : ¬ x < 0 := fun q => h1 (by
      rw [Int32.lt_iff_toInt_lt] at q ⊢
      have e1 : (32 : Int32).toInt = 32 := rfl
      have e0 : (0 : Int32).toInt = 0 := rfl
      omega)
    obtain ⟨n, hn, rfl⟩ := nI_of h0
    have a1 : ¬ n < 32 := fun q => h1 ((nI_ltI hn (show 32 < 2 ^ 31 by omega)).mpr q)
    have a2 : nI n ≤ 126 ↔ n ≤ 126 := nI_leI hn (show 126 < 2 ^ 31 by omega)
    have a3 : 126 < nI n ↔ 126 < n := nI_ltI (show 126 < 2 ^ 31 by omega) hn
    by_cases h3 : n ≤ 126
    · exact Or.inl ⟨n, by omega, h3, rfl, h1, a2.mpr h3, by rw [if_neg h1, if_neg (fun q => by have := a3.mp q; omega)]⟩
    · exact Or.inr ⟨.inr (fun q => h3 (a2.mp q)), by rw [if_neg h1, if_pos (a3.mpr (by omega))]⟩
theorem lt66_e {c : Nat} (h : c ≤ 66) : (nI c < 66 ↔ c ≠ 66) ∧ (nI c = 66 ↔ c = 66) := by
  constructor
  · rw [show (66 : Int32) = nI 66 from rfl, nI_ltI (by omega) (by omega)]; omega
  · rw [show (66 : Int32) = nI 66 from rfl, nI_eq (by omega) (by omega)]
theorem st_letter {len plen : Int32} {codes page : Nat → Int32} (h : RPg len codes plen page) (x : Int32) : ∃ r len' codes' plen' page', f_X8_letter len codes x = some (r, len', codes') ∧ f_X9_letter plen page x = some (r, plen', page') ∧ RPg len' codes' plen' page' := by
  have h0 := h
  obtain ⟨l, c, hl, rfl, rfl, hc⟩ := h
  unfold f_X9_letter f_X8_letter
  rcases code_e x with ⟨d, d1, d2, rfl, h1, h2, h3⟩ | ⟨h1, h3⟩
  · rw [if_neg h1, if_pos h2]
    simp only [h3, i10, if_false]
    rw [show f_X5_length (nI l) = nI l from rfl]
    by_cases h6 : l = 66
    · rw [if_neg (fun q => (lt66_e hl).1.mp q h6), if_pos ((lt66_e hl).2.mpr h6)]
      exact ⟨_, _, _, _, _, rfl, rfl, h0⟩
    · rw [if_pos ((lt66_e hl).1.mpr h6), if_neg (fun q => h6 ((lt66_e hl).2.mp q))]
      unfold f_X5_write
      rw [show f_X8_isBelow (nI l) 66 = 1 from below_e (n := 66) (by omega) (by omega), chk_e (show l < 66 by omega) (by omega), chk_e (show l < 66 by omega) (by omega), cl_e (show l < 2 ^ 31 by omega), nI_1, (byteK d (by omega)).1]
      refine ⟨_, _, _, _, _, rfl, rfl, l + 1, (fun i => if i = l then d else c i), by omega, rfl, rfl, fun i hi => ?_⟩
      dsimp only
      by_cases q : i = l
      · rw [if_pos q, q, pk_us, pk_us]
        exact ⟨d1, d2, rfl, rfl⟩
      · rw [if_neg q, pk_un q, pk_un q]
        exact hc i (by omega)
  · simp only [h3, i00, if_true]
    by_cases h5 : x < 32
    · rw [if_pos h5]
      exact ⟨_, _, _, _, _, rfl, rfl, h0⟩
    · rw [if_neg h5, if_neg (h1.resolve_left h5)]
      exact ⟨_, _, _, _, _, rfl, rfl, h0⟩
theorem RPg_0 (codes page : Nat → Int32) : RPg 0 codes 0 page := ⟨0, fun _ => 32, by omega, rfl, rfl, fun i h => absurd h (Nat.not_lt_zero i)⟩
theorem st_blank {len plen : Int32} {codes page : Nat → Int32} (h : RPg len codes plen page) : ∃ r len' plen', f_X8_blank len = (r, len') ∧ f_X9_blank plen = (r, plen') ∧ RPg len' codes plen' page := by
  obtain ⟨l, c, hl, rfl, rfl, hc⟩ := h
  exact ⟨_, _, _, rfl, rfl, RPg_0 codes page⟩
