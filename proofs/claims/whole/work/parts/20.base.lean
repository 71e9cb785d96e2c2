/-! pasted: bits of an Int32; counts; sums (kit/laws) -/
/-! ===== Int32 by its bits: bt x i ===== -/
def bt (x : Int32) (i : Nat) : Bool := x.toBitVec.getLsbD i
theorem b_ext {x y : Int32} (h : ∀ i, i < 32 → bt x i = bt y i) : x = y := Int32.toBitVec_inj.mp (BitVec.eq_of_getLsbD_eq (fun i hi => h i hi))
theorem b_or (x y : Int32) (i : Nat) : bt (x ||| y) i = (bt x i || bt y i) := by unfold bt; rw [Int32.toBitVec_or, BitVec.getLsbD_or]
theorem b_and (x y : Int32) (i : Nat) : bt (x &&& y) i = (bt x i && bt y i) := by unfold bt; rw [Int32.toBitVec_and, BitVec.getLsbD_and]
theorem b_xor (x y : Int32) (i : Nat) : bt (x ^^^ y) i = (bt x i ^^ bt y i) := by unfold bt; rw [Int32.toBitVec_xor, BitVec.getLsbD_xor]
theorem b_big {x : Int32} {i : Nat} (h : 32 ≤ i) : bt x i = false := BitVec.getLsbD_of_ge _ _ h
theorem b_255 (i : Nat) : bt 255 i = decide (i < 8) := by
  rcases Nat.lt_or_ge i 32 with h | h
  · exact (by decide +kernel : ∀ i, i < 32 → bt 255 i = decide (i < 8)) i h
  · rw [b_big h, decide_eq_false (by omega)]
theorem b_65535 (i : Nat) : bt 65535 i = decide (i < 16) := by
  rcases Nat.lt_or_ge i 32 with h | h
  · exact (by decide +kernel : ∀ i, i < 32 → bt 65535 i = decide (i < 16)) i h
  · rw [b_big h, decide_eq_false (by omega)]
theorem b_m1 : ∀ i, i < 32 → bt (-1) i = true := by decide +kernel
theorem b_0 (i : Nat) : bt 0 i = false := BitVec.getLsbD_zero
theorem s_l : ∀ n, n < 32 → ((nI n &&& 31).toBitVec.smod 32).toNat = n := by decide +kernel
theorem s_u : ∀ n, n < 32 → (((nI n).toUInt32 &&& Int32.toUInt32 31).toBitVec % 32).toNat = n := by decide +kernel
theorem b_shl (n : Nat) (hn : n < 32) (x : Int32) {i : Nat} (hi : i < 32) : bt (x <<< (nI n &&& 31)) i = (decide (n ≤ i) && bt x (i - n)) := by
  unfold bt
  rw [Int32.toBitVec_shiftLeft]
  show (x.toBitVec <<< ((nI n &&& 31).toBitVec.smod 32).toNat).getLsbD i = _
  rw [s_l n hn, BitVec.getLsbD_shiftLeft]
  rcases Nat.lt_or_ge i n with h | h
  · simp [h, Nat.not_le.mpr h]
  · simp [hi, h, Nat.not_lt.mpr h]
theorem b_ushr (n : Nat) (hn : n < 32) (x : Int32) (i : Nat) : bt ((x.toUInt32 >>> ((nI n).toUInt32 &&& Int32.toUInt32 31)).toInt32) i = bt x (n + i) := by
  show (x.toUInt32 >>> ((nI n).toUInt32 &&& Int32.toUInt32 31)).toBitVec.getLsbD i = x.toUInt32.toBitVec.getLsbD (n + i)
  rw [UInt32.toBitVec_shiftRight]
  show (x.toUInt32.toBitVec >>> (((nI n).toUInt32 &&& Int32.toUInt32 31).toBitVec % 32).toNat).getLsbD i = _
  rw [s_u n hn, BitVec.getLsbD_ushiftRight]
theorem b_sshr (n : Nat) (hn : n < 32) (x : Int32) {i : Nat} (hi : i < 32) : bt (x >>> (nI n &&& 31)) i = if n + i < 32 then bt x (n + i) else bt x 31 := by
  unfold bt
  rw [Int32.toBitVec_shiftRight]
  show (x.toBitVec.sshiftRight ((nI n &&& 31).toBitVec.smod 32).toNat).getLsbD i = _
  rw [s_l n hn, BitVec.getLsbD_sshiftRight, BitVec.msb_eq_getLsbD_last]
  simp [hi]
theorem b_shl8 (x : Int32) {i : Nat} (hi : i < 32) : bt (x <<< ((8 : Int32) &&& 31)) i = (decide (8 ≤ i) && bt x (i - 8)) := b_shl 8 (by omega) x hi
theorem b_shl16 (x : Int32) {i : Nat} (hi : i < 32) : bt (x <<< ((16 : Int32) &&& 31)) i = (decide (16 ≤ i) && bt x (i - 16)) := b_shl 16 (by omega) x hi
theorem b_shl24 (x : Int32) {i : Nat} (hi : i < 32) : bt (x <<< ((24 : Int32) &&& 31)) i = (decide (24 ≤ i) && bt x (i - 24)) := b_shl 24 (by omega) x hi
theorem b_sshr8 (x : Int32) {i : Nat} (hi : i < 32) : bt (x >>> ((8 : Int32) &&& 31)) i = if 8 + i < 32 then bt x (8 + i) else bt x 31 := b_sshr 8 (by omega) x hi
/-! ===== how many places have a property ===== -/
def fb_ct (p : Nat → Bool) : Nat → Nat
  | 0 => 0
  | n + 1 => fb_ct p n + (if p n then 1 else 0)
theorem fb_ct_succ (p : Nat → Bool) (n : Nat) : fb_ct p (n + 1) = fb_ct p n + (if p n then 1 else 0) := rfl
theorem fb_ct_le (p : Nat → Bool) : ∀ n, fb_ct p n ≤ n
  | 0 => Nat.le_refl _
  | n + 1 => by
    have h := fb_ct_le p n
    rw [fb_ct_succ]
    split <;> omega
theorem fb_ct_step (p : Nat → Bool) (m : Nat) : ∀ n, fb_ct p m ≤ fb_ct p (m + n)
  | 0 => Nat.le_refl _
  | n + 1 => by
    have h := fb_ct_step p m n
    show fb_ct p m ≤ fb_ct p (m + n + 1)
    rw [fb_ct_succ]
    omega
theorem fb_ct_mono (p : Nat → Bool) {m n : Nat} (h : m ≤ n) : fb_ct p m ≤ fb_ct p n := by
  have := fb_ct_step p m (n - m)
  rwa [Nat.add_sub_cancel' h] at this
theorem fb_ct_cong {p q : Nat → Bool} : ∀ {n : Nat}, (∀ k, k < n → p k = q k) → fb_ct p n = fb_ct q n
  | 0, _ => rfl
  | n + 1, h => by
    rw [fb_ct_succ, fb_ct_succ, fb_ct_cong (fun k hk => h k (by omega)), h n (by omega)]
/-- one place changed -/
theorem fb_ct_out (p : Nat → Bool) (b : Bool) {i n : Nat} (h : n ≤ i) : fb_ct (fun k => if k = i then b else p k) n = fb_ct p n :=
  fb_ct_cong fun k hk => if_neg (by omega)
theorem fb_ct_upd (p : Nat → Bool) (b : Bool) {i : Nat} : ∀ {n : Nat}, i < n → fb_ct (fun k => if k = i then b else p k) n + (if p i then 1 else 0) = fb_ct p n + (if b then 1 else 0)
  | 0, h => absurd h (Nat.not_lt_zero i)
  | n + 1, h => by
    rw [fb_ct_succ, fb_ct_succ]
    rcases Nat.lt_or_ge i n with q | q
    · have := fb_ct_upd p b q
      have e : (if n = i then b else p n) = p n := if_neg (by omega)
      rw [e]
      omega
    · have e : i = n := by omega
      subst e
      rw [fb_ct_out p b (Nat.le_refl _)]
      simp only [if_true]
      omega
theorem fb_ct_sub {p q : Nat → Bool} : ∀ {n : Nat}, (∀ k, k < n → p k = true → q k = true) → fb_ct p n ≤ fb_ct q n
  | 0, _ => Nat.le_refl _
  | n + 1, h => by
    have h1 := fb_ct_sub (n := n) (p := p) (q := q) (fun k hk => h k (by omega))
    have h2 := h n (by omega)
    rw [fb_ct_succ, fb_ct_succ]
    cases hp : p n <;> cases hq : q n <;> simp_all <;> omega
theorem fb_ct_or {p q : Nat → Bool} : ∀ {n : Nat}, (∀ k, k < n → ¬ (p k = true ∧ q k = true)) → fb_ct (fun k => p k || q k) n = fb_ct p n + fb_ct q n
  | 0, _ => rfl
  | n + 1, h => by
    have h1 := fb_ct_or (n := n) (p := p) (q := q) (fun k hk => h k (by omega))
    have h2 := h n (by omega)
    rw [fb_ct_succ, fb_ct_succ, fb_ct_succ, h1]
    cases hp : p n <;> cases hq : q n <;> simp_all <;> omega
theorem fb_ct_not (p : Nat → Bool) : ∀ n, fb_ct p n + fb_ct (fun k => !p k) n = n
  | 0 => rfl
  | n + 1 => by
    have h := fb_ct_not p n
    rw [fb_ct_succ, fb_ct_succ]
    cases p n <;> simp <;> omega
theorem fb_ct_split (p : Nat → Bool) (m : Nat) : ∀ n, fb_ct p (m + n) = fb_ct p m + fb_ct (fun k => p (m + k)) n
  | 0 => rfl
  | n + 1 => by
    have h := fb_ct_split p m n
    show fb_ct p (m + n + 1) = _
    rw [fb_ct_succ, fb_ct_succ, h, Nat.add_assoc]
theorem fb_ct_zero {p : Nat → Bool} : ∀ {n : Nat}, fb_ct p n = 0 ↔ ∀ k, k < n → p k = false
  | 0 => ⟨fun _ k hk => absurd hk (Nat.not_lt_zero k), fun _ => rfl⟩
  | n + 1 => by
    have h := fb_ct_zero (p := p) (n := n)
    rw [fb_ct_succ]
    constructor
    · intro e k hk
      have e1 : fb_ct p n = 0 := by omega
      rcases Nat.lt_or_ge k n with q | q
      · exact h.mp e1 k q
      · have ek : k = n := by omega
        subst ek
        cases hp : p k
        · rfl
        · simp [hp] at e
    · intro a
      rw [h.mpr (fun k hk => a k (by omega)), a n (by omega)]
      rfl
theorem fb_ct_pos {p : Nat → Bool} {n : Nat} : 0 < fb_ct p n ↔ ∃ k, k < n ∧ p k = true := by
  constructor
  · intro h
    refine Classical.byContradiction fun hx => ?_
    have := fb_ct_zero.mpr (fun k hk => by
      cases hp : p k
      · rfl
      · exact absurd ⟨k, hk, hp⟩ hx : ∀ k, k < n → p k = false)
    omega
  · rintro ⟨k, hk, hp⟩
    rcases Nat.eq_zero_or_pos (fb_ct p n) with e | e
    · have := fb_ct_zero.mp e k hk
      rw [this] at hp
      cases hp
    · exact e
theorem fb_ct_all {p : Nat → Bool} {n : Nat} : fb_ct p n = n ↔ ∀ k, k < n → p k = true := by
  have h := fb_ct_not p n
  constructor
  · intro e k hk
    have z : fb_ct (fun k => !p k) n = 0 := by omega
    have := fb_ct_zero.mp z k hk
    cases hp : p k
    · simp [hp] at this
    · rfl
  · intro a
    have z : fb_ct (fun k => !p k) n = 0 := fb_ct_zero.mpr (fun k hk => by simp [a k hk])
    omega
/-- the k-th place with the property -/
theorem fb_ct_kth {p : Nat → Bool} {k : Nat} : ∀ {n : Nat}, k < fb_ct p n → ∃ i, i < n ∧ p i = true ∧ fb_ct p i = k
  | 0, h => absurd h (Nat.not_lt_zero k)
  | n + 1, h => by
    rcases Nat.lt_or_ge k (fb_ct p n) with q | q
    · obtain ⟨i, h1, h2⟩ := fb_ct_kth q
      exact ⟨i, by omega, h2⟩
    · rw [fb_ct_succ] at h
      cases hp : p n
      · simp [hp] at h; omega
      · simp [hp] at h
        exact ⟨n, by omega, hp, by omega⟩
theorem fb_ct_kth_one {p : Nat → Bool} {i j : Nat} (hi : p i = true) (hj : p j = true) (e : fb_ct p i = fb_ct p j) : i = j := by
  have key : ∀ a b : Nat, a < b → p a = true → fb_ct p a < fb_ct p b := by
    intro a b hab ha
    have h := fb_ct_mono p (show a + 1 ≤ b from hab)
    rw [fb_ct_succ, ha] at h
    simp at h
    omega
  rcases Nat.lt_trichotomy i j with q | q | q
  · have := key i j q hi; omega
  · exact q
  · have := key j i q hj; omega
/-! ===== sums over a range: one place changed, parts, bounds ===== -/
def fb_sm (f : Nat → Nat) : Nat → Nat
  | 0 => 0
  | n + 1 => fb_sm f n + f n
theorem fb_sm_succ (f : Nat → Nat) (n : Nat) : fb_sm f (n + 1) = fb_sm f n + f n := rfl
theorem fb_sm_cong {f g : Nat → Nat} : ∀ {n : Nat}, (∀ k, k < n → f k = g k) → fb_sm f n = fb_sm g n
  | 0, _ => rfl
  | n + 1, h => by rw [fb_sm_succ, fb_sm_succ, fb_sm_cong (fun k hk => h k (by omega)), h n (by omega)]
theorem fb_sm_out (f : Nat → Nat) (v : Nat) {i n : Nat} (h : n ≤ i) : fb_sm (fun k => if k = i then v else f k) n = fb_sm f n :=
  fb_sm_cong fun k hk => if_neg (by omega)
theorem fb_sm_upd (f : Nat → Nat) (v : Nat) {i : Nat} : ∀ {n : Nat}, i < n → fb_sm (fun k => if k = i then v else f k) n + f i = fb_sm f n + v
  | 0, h => absurd h (Nat.not_lt_zero i)
  | n + 1, h => by
    rw [fb_sm_succ, fb_sm_succ]
    rcases Nat.lt_or_ge i n with q | q
    · have := fb_sm_upd f v q
      have e : (if n = i then v else f n) = f n := if_neg (by omega)
      rw [e]
      omega
    · have e : i = n := by omega
      subst e
      rw [fb_sm_out f v (Nat.le_refl _)]
      simp only [if_true]
      omega
theorem fb_sm_add (f g : Nat → Nat) : ∀ n, fb_sm (fun k => f k + g k) n = fb_sm f n + fb_sm g n
  | 0 => rfl
  | n + 1 => by
    have h := fb_sm_add f g n
    rw [fb_sm_succ, fb_sm_succ, fb_sm_succ, h]
    omega
theorem fb_sm_le {f g : Nat → Nat} : ∀ {n : Nat}, (∀ k, k < n → f k ≤ g k) → fb_sm f n ≤ fb_sm g n
  | 0, _ => Nat.le_refl _
  | n + 1, h => by
    have h1 := fb_sm_le (n := n) (f := f) (g := g) (fun k hk => h k (by omega))
    have h2 := h n (by omega)
    rw [fb_sm_succ, fb_sm_succ]
    omega
theorem fb_sm_const (c : Nat) : ∀ n, fb_sm (fun _ => c) n = n * c
  | 0 => by rw [Nat.zero_mul]; rfl
  | n + 1 => by rw [fb_sm_succ, fb_sm_const c n, Nat.succ_mul]
theorem fb_sm_bound {f : Nat → Nat} {c n : Nat} (h : ∀ k, k < n → f k ≤ c) : fb_sm f n ≤ n * c := by
  rw [← fb_sm_const c n]
  exact fb_sm_le h
theorem fb_sm_mono (f : Nat → Nat) (m : Nat) : ∀ n, fb_sm f m ≤ fb_sm f (m + n)
  | 0 => Nat.le_refl _
  | n + 1 => by
    have h := fb_sm_mono f m n
    show fb_sm f m ≤ fb_sm f (m + n + 1)
    rw [fb_sm_succ]
    omega
theorem fb_sm_part (f : Nat → Nat) {i n : Nat} (h : i < n) : fb_sm f i + f i ≤ fb_sm f n := by
  have := fb_sm_mono f (i + 1) (n - (i + 1))
  rw [fb_sm_succ, show i + 1 + (n - (i + 1)) = n by omega] at this
  exact this
theorem fb_sm_split (f : Nat → Nat) (m : Nat) : ∀ n, fb_sm f (m + n) = fb_sm f m + fb_sm (fun k => f (m + k)) n
  | 0 => rfl
  | n + 1 => by
    have h := fb_sm_split f m n
    show fb_sm f (m + n + 1) = _
    rw [fb_sm_succ, fb_sm_succ, h, Nat.add_assoc]
theorem fb_sm_zero {f : Nat → Nat} {n : Nat} (h : fb_sm f n = 0) : ∀ k, k < n → f k = 0 := fun k hk => by
  have := fb_sm_part f hk
  omega
/-! loops of the pure side -/
theorem k_it_s {α β : Type} (b : (α → Option β) → (α → Option β) → α → Option β) (ex : α → Option β) (n : Nat) (a : α) : k_it b ex (n + 1) a = b ex (k_it b ex n) a := rfl
theorem k_run {α β : Type} {b : (α → Option β) → (α → Option β) → α → Option β} {ex : α → Option β} (n : Nat) (I : Nat → α → Prop) (T : Option β → Prop)
    (hs : ∀ (rc : α → Option β) (k : Nat) (a : α), k < n → I k a → (∃ a', I (k + 1) a' ∧ b ex rc a = rc a') ∨ T (b ex rc a)) (hx : ∀ (rc : α → Option β) (a : α), I n a → b ex rc a = ex a) {N : Nat} (hN : n < N) {a0 : α} (h0 : I 0 a0) : (∃ a, I n a ∧ k_it b ex N a0 = ex a) ∨ T (k_it b ex N a0) := by
  have key : ∀ (j k : Nat) (N : Nat) (a : α), k + j = n → j < N → I k a → (∃ a', I n a' ∧ k_it b ex N a = ex a') ∨ T (k_it b ex N a) := by
    intro j
    induction j with
    | zero =>
      intro k N a hk hN hI
      obtain ⟨N, rfl⟩ : ∃ M, N = M + 1 := ⟨N - 1, by omega⟩
      have : k = n := by omega
      subst this
      exact Or.inl ⟨a, hI, hx _ a hI⟩
    | succ j ih =>
      intro k N a hk hN hI
      obtain ⟨N, rfl⟩ : ∃ M, N = M + 1 := ⟨N - 1, by omega⟩
      rcases hs (k_it b ex N) k a (by omega) hI with ⟨a', h1, h2⟩ | h
      · rw [k_it_s, h2]
        exact ih (k + 1) N a' (by omega) (by omega) h1
      · exact Or.inr h
  exact key n 0 N a0 (by omega) hN h0
theorem k_for {α β : Type} {b : (α → Option β) → (α → Option β) → α → Option β} {ex : α → Option β} (n : Nat) (F : Nat → α) (hs : ∀ (rc : α → Option β) (k : Nat), k < n → b ex rc (F k) = rc (F (k + 1))) (hx : ∀ rc : α → Option β, b ex rc (F n) = ex (F n)) {N : Nat} (hN : n < N) : k_it b ex N (F 0) = ex (F n) := by
  rcases k_run (b := b) (ex := ex) n (fun k a => a = F k) (fun _ => False) (fun rc k a hk h => Or.inl ⟨F (k + 1), rfl, by rw [h, hs rc k hk]⟩) (fun rc a h => by rw [h, hx]) hN rfl with ⟨a, h1, h2⟩ | h
  · rw [h2, h1]
  · exact h.elim
theorem k_runG {α β : Type} {b : (α → Option β) → (α → Option β) → α → Option β} {ex : α → Option β} {N : Nat} {a0 : α} (G : Option β → Prop) (n : Nat) (I : Nat → α → Prop) (hN : n < N) (h0 : I 0 a0)
    (hs : ∀ (rc : α → Option β) (k : Nat) (a : α), k < n → I k a → ∃ a', I (k + 1) a' ∧ b ex rc a = rc a') (hx : ∀ (rc : α → Option β) (a : α), I n a → b ex rc a = ex a) (hG : ∀ a, I n a → G (ex a)) : G (k_it b ex N a0) := by
  rcases k_run (b := b) (ex := ex) n I (fun _ => False) (fun rc k a hk h => Or.inl (hs rc k a hk h)) hx hN h0 with ⟨a, h1, h2⟩ | h
  · rw [h2]
    exact hG a h1
  · exact h.elim
/-- a loop that may end early: P tells where it goes on -/
theorem k_srch {α β : Type} {b : (α → Option β) → (α → Option β) → α → Option β} {ex : α → Option β} (n : Nat) (F : Nat → α) (p : Nat → Bool) (r : Nat → Option β) (hs : ∀ (rc : α → Option β) (k : Nat), k < n → b ex rc (F k) = if p k then rc (F (k + 1)) else r k) (hx : ∀ rc : α → Option β, b ex rc (F n) = ex (F n)) {N : Nat} (hN : n < N) :
    (∃ k, k < n ∧ p k = false ∧ (∀ j, j < k → p j = true) ∧ k_it b ex N (F 0) = r k) ∨ ((∀ j, j < n → p j = true) ∧ k_it b ex N (F 0) = ex (F n)) := by
  rcases k_run (b := b) (ex := ex) n (fun k a => a = F k ∧ ∀ j, j < k → p j = true) (fun o => ∃ k, k < n ∧ p k = false ∧ (∀ j, j < k → p j = true) ∧ o = r k) (fun rc k a hk h => by
      obtain ⟨rfl, hj⟩ := h
      rw [hs rc k hk]
      cases hp : p k with
      | true => exact Or.inl ⟨_, ⟨rfl, fun j hj2 => by
          rcases Nat.lt_or_ge j k with h | h
          · exact hj j h
          · rw [show j = k by omega]; exact hp⟩, by simp⟩
      | false => exact Or.inr ⟨k, hk, hp, hj, by simp⟩) (fun rc a h => by rw [h.1, hx]) hN ⟨rfl, fun j h => absurd h (Nat.not_lt_zero j)⟩ with ⟨a, h1, h2⟩ | h
  · exact Or.inr ⟨h1.2, by rw [h2, h1.1]⟩
  · exact Or.inl h
theorem k_srchG {α β : Type} {b : (α → Option β) → (α → Option β) → α → Option β} {ex : α → Option β} {N : Nat} {a0 : α} (G : Option β → Prop) (n : Nat) (F : Nat → α) (p : Nat → Bool) (r : Nat → Option β) (hN : n < N) (h0 : F 0 = a0) (hs : ∀ (rc : α → Option β) (k : Nat), k < n → b ex rc (F k) = if p k then rc (F (k + 1)) else r k) (hx : ∀ rc : α → Option β, b ex rc (F n) = ex (F n))
    (h1 : ∀ k, k < n → p k = false → (∀ j, j < k → p j = true) → G (r k)) (h2 : (∀ j, j < n → p j = true) → G (ex (F n))) : G (k_it b ex N a0) := by
  subst h0
  rcases k_srch (b := b) (ex := ex) n F p r hs hx hN with ⟨k, g1, g2, g3, g4⟩ | ⟨g1, g2⟩
  · rw [g4]; exact h1 k g1 g2 g3
  · rw [g2]; exact h2 g1
/-- .. of which only the answer is told: all, or the first that fails -/
theorem k_all_ {α β : Type} {b : (α → Option β) → (α → Option β) → α → Option β} {ex : α → Option β} (n : Nat) (F : Nat → α) (p : Nat → Bool) (r : Option β) (hs : ∀ (rc : α → Option β) (k : Nat), k < n → b ex rc (F k) = if p k then rc (F (k + 1)) else r) (hx : ∀ rc : α → Option β, b ex rc (F n) = ex (F n)) {N : Nat} (hN : n < N) : k_it b ex N (F 0) = if (List.range n).all p then ex (F n) else r := by
  rcases k_srch (b := b) (ex := ex) n F p (fun _ => r) hs hx hN with ⟨k, h1, h2, h3, h4⟩ | ⟨h1, h2⟩
  · rw [h4, if_neg]
    intro h
    rw [List.all_eq_true] at h
    rw [h k (List.mem_range.mpr h1)] at h2
    cases h2
  · rw [h2, if_pos]
    rw [List.all_eq_true]
    exact fun k hk => h1 k (List.mem_range.mp hk)
/-! sets of bits as numbers -/
def bN (f : Nat → Bool) : Nat → Nat
  | 0 => 0
  | n + 1 => bN f n + (if f n then 2 ^ n else 0)
theorem bN_lt (f : Nat → Bool) : ∀ n, bN f n < 2 ^ n := by
  intro n
  induction n with
  | zero => exact Nat.zero_lt_one
  | succ n ih =>
    show bN f n + (if f n then 2 ^ n else 0) < 2 ^ (n + 1)
    rw [Nat.pow_succ]
    by_cases h : f n = true
    · rw [if_pos h]; omega
    · rw [if_neg h]; omega
theorem bN_tb (f : Nat → Bool) (i : Nat) : ∀ n, (bN f n).testBit i = (decide (i < n) && f i) := by
  intro n
  induction n with
  | zero => simp [bN]
  | succ n ih =>
    show (bN f n + (if f n then 2 ^ n else 0)).testBit i = _
    have hlt := bN_lt f n
    by_cases h : f n = true
    · rw [if_pos h, Nat.add_comm]
      rcases Nat.lt_trichotomy i n with h1 | h1 | h1
      · rw [Nat.testBit_two_pow_add_gt h1, ih]
        simp [h1, Nat.lt_succ_of_lt h1]
      · subst h1
        rw [Nat.testBit_two_pow_add_eq, ih]
        simp [h]
      · rw [Nat.testBit_lt_two_pow (Nat.lt_of_lt_of_le (show 2 ^ n + bN f n < 2 ^ (n + 1) by rw [Nat.pow_succ]; omega) (Nat.pow_le_pow_right (by omega) h1))]
        simp [show ¬ i < n + 1 by omega]
    · rw [if_neg h, Nat.add_zero, ih]
      rcases Nat.lt_trichotomy i n with h1 | h1 | h1
      · simp [h1, Nat.lt_succ_of_lt h1]
      · subst h1
        simp [h]
      · simp [show ¬ i < n + 1 by omega, show ¬ i < n by omega]
theorem bN_congr {f g : Nat → Bool} : ∀ {n : Nat}, (∀ i, i < n → f i = g i) → bN f n = bN g n := by
  intro n
  induction n with
  | zero => intro _; rfl
  | succ n ih =>
    intro h
    show bN f n + _ = bN g n + _
    rw [ih (fun i hi => h i (by omega)), h n (by omega)]
def bI (n : Nat) (f : Nat → Bool) : Int32 := nI (bN f n)
theorem bt_nI (n i : Nat) : bt (nI n) i = (decide (i < 32) && n.testBit i) := by
  show (BitVec.ofNat 32 n).getLsbD i = _
  rw [BitVec.getLsbD_ofNat]
theorem bt_bI {n : Nat} (hn : n ≤ 32) (f : Nat → Bool) (i : Nat) : bt (bI n f) i = (decide (i < n) && f i) := by
  unfold bI
  rw [bt_nI, bN_tb]
  by_cases h : i < n
  · simp [h, show i < 32 by omega]
  · simp [h]
theorem bI_congr {n : Nat} {f g : Nat → Bool} (h : ∀ i, i < n → f i = g i) : bI n f = bI n g := congrArg nI (bN_congr h)
theorem bI_of {x : Int32} {n : Nat} {f : Nat → Bool} (hn : n ≤ 32) (h : ∀ i, i < 32 → bt x i = (decide (i < n) && f i)) : x = bI n f := b_ext (fun i hi => by rw [h i hi, bt_bI hn])
theorem bI_inj {n : Nat} {f g : Nat → Bool} (hn : n ≤ 32) (h : bI n f = bI n g) : ∀ i, i < n → f i = g i := by
  intro i hi
  have h1 := bt_bI hn f i
  rw [h, bt_bI hn g i] at h1
  simpa [hi] using h1.symm
theorem bI_0 {n : Nat} (hn : n ≤ 32) : bI n (fun _ => false) = 0 := b_ext (fun i hi => by rw [bt_bI hn, b_0]; simp)
theorem bI_eq0 {n : Nat} (hn : n ≤ 32) (f : Nat → Bool) : bI n f = 0 ↔ ∀ i, i < n → f i = false := by
  constructor
  · intro h
    rw [← bI_0 hn] at h
    exact bI_inj hn h
  · intro h
    rw [← bI_0 hn]
    exact bI_congr h
theorem bI_or {n : Nat} (hn : n ≤ 32) (f g : Nat → Bool) : bI n f ||| bI n g = bI n (fun i => f i || g i) := bI_of hn (fun i hi => by rw [b_or, bt_bI hn, bt_bI hn]; cases decide (i < n) <;> rfl)
theorem bI_and {n : Nat} (hn : n ≤ 32) (f g : Nat → Bool) : bI n f &&& bI n g = bI n (fun i => f i && g i) := bI_of hn (fun i hi => by rw [b_and, bt_bI hn, bt_bI hn]; cases decide (i < n) <;> rfl)
theorem nI_mul4 (a b : Nat) : (4 : Int32) * nI a + nI b = nI (4 * a + b) := by rw [show (4 : Int32) = nI 4 from rfl, pk_mul, nI_add]
theorem nI_mul4' (a : Nat) : (4 : Int32) * nI a = nI (4 * a) := by rw [show (4 : Int32) = nI 4 from rfl, pk_mul]
theorem tb1 (i : Nat) : Nat.testBit 1 i = decide (i = 0) := by
  cases i with
  | zero => rfl
  | succ i => rw [Nat.testBit_succ]; simp
/-- one bit, by a shift to the left -/
theorem b_one {n : Nat} (hn : n < 32) {i : Nat} (hi : i < 32) : bt ((1 : Int32) <<< (nI n &&& 31)) i = decide (i = n) := by
  rw [b_shl n hn 1 hi, show (1 : Int32) = nI 1 from rfl, bt_nI]
  by_cases h : i = n
  · subst h
    simp
  · rcases Nat.lt_or_ge i n with h1 | h1
    · simp [h, show ¬ n ≤ i by omega]
    · have h2 : i - n ≠ 0 := by omega
      simp [h, tb1, h2]
/-- one bit, by a shift to the right -/
theorem b_get {n : Nat} (hn : n < 31) (x : Int32) : (x >>> (nI n &&& 31)) &&& 1 = if bt x n then 1 else 0 := by
  apply b_ext
  intro i hi
  rw [b_and, b_sshr n (by omega) x hi, show (1 : Int32) = nI 1 from rfl, bt_nI, tb1]
  by_cases h : i = 0
  · subst h
    rw [if_pos (by omega)]
    cases hb : bt x n
    · simp [hb, b_0]
    · simp [hb, bt_nI]
  · rw [decide_eq_false h]
    cases hb : bt x n
    · simp [b_0]
    · simp [bt_nI, tb1, h]
