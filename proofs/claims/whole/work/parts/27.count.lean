/-! pasted: lN n to 2^64 (kit/laws) -/
/-! ===== lN n to 2^64: shifts, and, or, masks, one bit ===== -/
theorem wb_tb (n : Nat) : (lN n).toBitVec = BitVec.ofNat 64 n := rfl
theorem wb_inj {a b : Int64} (h : a.toBitVec = b.toBitVec) : a = b := Int64.toBitVec_inj.mp h
theorem wb_tn {n : Nat} (h : n < 2 ^ 64) : (lN n).toBitVec.toNat = n := by rw [wb_tb, BitVec.toNat_ofNat, Nat.mod_eq_of_lt h]
theorem wb_of (x : Int64) : ∃ n, n < 2 ^ 64 ∧ x = lN n := ⟨x.toBitVec.toNat, x.toBitVec.isLt, wb_inj (by rw [wb_tb]; simp)⟩
theorem wb_of32 (x : Int32) : ∃ n, n < 2 ^ 32 ∧ x = nI n := ⟨x.toBitVec.toNat, x.toBitVec.isLt, Int32.toBitVec_inj.mp (by show _ = BitVec.ofNat 32 _; simp)⟩
theorem wb_c : ∀ k, k < 64 → ((nI k).toInt64 &&& 63) = lN k := by decide +kernel
theorem wb_cu : ∀ k, k < 64 → ((nI k).toInt64.toUInt64 &&& Int64.toUInt64 63) = UInt64.ofNat k := by decide +kernel
theorem wb_sm : ∀ k, k < 64 → (BitVec.ofNat 64 k).smod 64 = BitVec.ofNat 64 k := by decide +kernel
theorem wb_pw {a b : Nat} (h : a ≤ b) : 2 ^ b = 2 ^ a * 2 ^ (b - a) := by rw [← Nat.pow_add]; congr 1; omega
theorem wb_lt2 {a b : Nat} (h : a < b) : 2 ^ a < 2 ^ b := Nat.pow_lt_pow_right (by decide) h
theorem wb_mod (n : Nat) : lN n = lN (n % 2 ^ 64) := wb_inj (by rw [wb_tb, wb_tb]; apply BitVec.eq_of_toNat_eq; rw [BitVec.toNat_ofNat, BitVec.toNat_ofNat, Nat.mod_mod])
theorem wb_shr {n k : Nat} (hn : n < 2 ^ 64) (hk : k < 64) : ((lN n).toUInt64 >>> ((nI k).toInt64.toUInt64 &&& Int64.toUInt64 63)).toInt64 = lN (n / 2 ^ k) := by
  rw [wb_cu k hk]
  apply wb_inj
  apply BitVec.eq_of_toNat_eq
  show ((lN n).toUInt64 >>> UInt64.ofNat k).toNat = (BitVec.ofNat 64 _).toNat
  have h1 : (UInt64.ofNat k).toNat = k := by
    show (BitVec.ofNat 64 k).toNat = k
    rw [BitVec.toNat_ofNat, Nat.mod_eq_of_lt (by omega)]
  have h2 : (lN n).toUInt64.toNat = n := wb_tn hn
  rw [UInt64.toNat_shiftRight, h1, h2, Nat.mod_eq_of_lt hk, Nat.shiftRight_eq_div_pow, BitVec.toNat_ofNat, Nat.mod_eq_of_lt (Nat.lt_of_le_of_lt (Nat.div_le_self _ _) hn)]
theorem wb_shl (n : Nat) {k : Nat} (hk : k < 64) : lN n <<< ((nI k).toInt64 &&& 63) = lN (n * 2 ^ k) := by
  rw [wb_c k hk]
  apply wb_inj
  rw [Int64.toBitVec_shiftLeft, wb_tb, wb_tb, wb_tb, wb_sm k hk]
  apply BitVec.eq_of_toNat_eq
  rw [BitVec.shiftLeft_eq', BitVec.toNat_shiftLeft, BitVec.toNat_ofNat, BitVec.toNat_ofNat, BitVec.toNat_ofNat, Nat.mod_eq_of_lt (show k < 2 ^ 64 by omega), Nat.shiftLeft_eq, Nat.mul_mod, Nat.mod_mod, ← Nat.mul_mod]
theorem wb_and {a b : Nat} (ha : a < 2 ^ 64) (hb : b < 2 ^ 64) : lN a &&& lN b = lN (a &&& b) := by
  apply wb_inj
  rw [Int64.toBitVec_and, wb_tb, wb_tb, wb_tb]
  apply BitVec.eq_of_toNat_eq
  rw [BitVec.toNat_and, BitVec.toNat_ofNat, BitVec.toNat_ofNat, BitVec.toNat_ofNat, Nat.mod_eq_of_lt ha, Nat.mod_eq_of_lt hb, Nat.mod_eq_of_lt (Nat.and_lt_two_pow _ hb)]
theorem wb_or {a b : Nat} (ha : a < 2 ^ 64) (hb : b < 2 ^ 64) : lN a ||| lN b = lN (a ||| b) := by
  apply wb_inj
  rw [Int64.toBitVec_or, wb_tb, wb_tb, wb_tb]
  apply BitVec.eq_of_toNat_eq
  rw [BitVec.toNat_or, BitVec.toNat_ofNat, BitVec.toNat_ofNat, BitVec.toNat_ofNat, Nat.mod_eq_of_lt ha, Nat.mod_eq_of_lt hb, Nat.mod_eq_of_lt (Nat.or_lt_two_pow ha hb)]
theorem wb_mask {n k : Nat} (hn : n < 2 ^ 64) (hk : k < 64) : lN n &&& lN (2 ^ k - 1) = lN (n % 2 ^ k) := by
  rw [wb_and hn (by have := wb_lt2 hk; omega), Nat.and_two_pow_sub_one_eq_mod]
theorem wb_a1 {n : Nat} (hn : n < 2 ^ 64) : lN n &&& 1 = lN (n % 2) := wb_mask (k := 1) hn (by decide)
theorem wb_bit {n k : Nat} (hn : n < 2 ^ 64) (hk : k < 64) : ((lN n).toUInt64 >>> ((nI k).toInt64.toUInt64 &&& Int64.toUInt64 63)).toInt64 &&& 1 = lN (n / 2 ^ k % 2) := by
  rw [wb_shr hn hk, wb_a1 (Nat.lt_of_le_of_lt (Nat.div_le_self _ _) hn)]
theorem wb_xor {q k : Nat} (hk : k < 63) (h : 2 ^ k ≤ q) (h2 : q < 2 ^ (k + 1)) : lN q ^^^ lN (2 ^ k) = lN (q - 2 ^ k) := by
  obtain ⟨r, rfl⟩ : ∃ r, q = 2 ^ k + r := ⟨q - 2 ^ k, by omega⟩
  have hr : r < 2 ^ k := by rw [Nat.pow_succ] at h2; omega
  have hx : (2 ^ k + r) ^^^ 2 ^ k = r := by
    apply Nat.eq_of_testBit_eq
    intro i
    rw [Nat.testBit_xor, Nat.testBit_two_pow]
    rcases Nat.lt_trichotomy i k with h | h | h
    · rw [Nat.testBit_two_pow_add_gt h]
      simp [show ¬ k = i by omega]
    · subst h
      rw [Nat.testBit_two_pow_add_eq]
      simp
    · have a1 : 2 ^ (k + 1) ≤ 2 ^ i := Nat.pow_le_pow_right (by decide) h
      rw [Nat.testBit_lt_two_pow (show 2 ^ k + r < 2 ^ i by omega), Nat.testBit_lt_two_pow (show r < 2 ^ i by omega)]
      simp [show ¬ k = i by omega]
  have b1 := wb_lt2 (show k + 1 < 64 by omega)
  have b2 := wb_lt2 (show k < 64 by omega)
  apply wb_inj
  rw [Int64.toBitVec_xor, wb_tb, wb_tb, wb_tb]
  apply BitVec.eq_of_toNat_eq
  rw [BitVec.toNat_xor, BitVec.toNat_ofNat, BitVec.toNat_ofNat, BitVec.toNat_ofNat, Nat.mod_eq_of_lt (by omega : 2 ^ k + r < 2 ^ 64), Nat.mod_eq_of_lt b2, hx, Nat.add_sub_cancel_left, Nat.mod_eq_of_lt (by omega)]
/-! how many bits are set, as the JDK counts them -/
theorem pc_land {k a c : Nat} (b m : Nat) (ha : a < 2 ^ k) (hc : c < 2 ^ k) : (a + 2 ^ k * b) &&& (c + 2 ^ k * m) = (a &&& c) + 2 ^ k * (b &&& m) := by
  apply Nat.eq_of_testBit_eq
  intro i
  have hac : a &&& c < 2 ^ k := Nat.and_lt_two_pow a hc
  rw [Nat.testBit_and, Nat.add_comm a, Nat.add_comm c, Nat.add_comm (a &&& c), Nat.testBit_two_pow_mul_add b ha, Nat.testBit_two_pow_mul_add m hc, Nat.testBit_two_pow_mul_add (b &&& m) hac]
  by_cases h : i < k
  · rw [if_pos h, if_pos h, if_pos h, Nat.testBit_and]
  · rw [if_neg h, if_neg h, if_neg h, Nat.testBit_and]
/-- digits, the lowest first -/
def pc_s (B : Nat) (d : Nat → Nat) : Nat → Nat
  | 0 => 0
  | n + 1 => d 0 + B * pc_s B (fun i => d (i + 1)) n
def pc_5 : Nat → Nat
  | 0 => 0
  | n + 1 => 1 + 4 * pc_5 n
def pc_3 : Nat → Nat
  | 0 => 0
  | n + 1 => 3 + 16 * pc_3 n
def pc_f : Nat → Nat
  | 0 => 0
  | n + 1 => 15 + 256 * pc_f n
theorem pc_s1 : ∀ (n : Nat) (d : Nat → Nat), (∀ i, d i < 4) → pc_s 4 d n - (pc_s 4 d n / 2 &&& pc_5 n) = pc_s 4 (fun i => d i - d i / 2) n ∧ (pc_s 4 d n / 2 &&& pc_5 n) ≤ pc_s 4 d n := by
  intro n
  induction n with
  | zero => intro d _; exact ⟨by simp [pc_s], by simp [pc_s]⟩
  | succ n ih =>
    intro d hd
    obtain ⟨ih1, ih2⟩ := ih (fun i => d (i + 1)) (fun i => hd (i + 1))
    have h0 := hd 0
    show d 0 + 4 * pc_s 4 (fun i => d (i + 1)) n - ((d 0 + 4 * pc_s 4 (fun i => d (i + 1)) n) / 2 &&& (1 + 4 * pc_5 n)) = d 0 - d 0 / 2 + 4 * pc_s 4 (fun i => d (i + 1) - d (i + 1) / 2) n ∧ ((d 0 + 4 * pc_s 4 (fun i => d (i + 1)) n) / 2 &&& (1 + 4 * pc_5 n)) ≤ d 0 + 4 * pc_s 4 (fun i => d (i + 1)) n
    generalize hr : pc_s 4 (fun i => d (i + 1)) n = r at ih1 ih2 ⊢
    have e : (d 0 + 4 * r) / 2 = (d 0 / 2 + 2 * (r % 2)) + 2 ^ 2 * (r / 2) := by omega
    have e2 : (d 0 / 2 + 2 * (r % 2)) &&& 1 = d 0 / 2 := by
      rw [Nat.and_one_is_mod]; omega
    rw [e, show 1 + 4 * pc_5 n = 1 + 2 ^ 2 * pc_5 n from rfl, pc_land _ _ (by omega) (by omega), e2]
    omega
theorem pc_s2 : ∀ (n : Nat) (e : Nat → Nat), (∀ i, e i < 4) → (pc_s 4 e (2 * n) &&& pc_3 n) + ((pc_s 4 e (2 * n) / 4) &&& pc_3 n) = pc_s 16 (fun i => e (2 * i) + e (2 * i + 1)) n := by
  intro n
  induction n with
  | zero => intro e _; simp [pc_s]
  | succ n ih =>
    intro e he
    have ih1 := ih (fun i => e (i + 2)) (fun i => he (i + 2))
    have h0 := he 0
    have h1 := he 1
    show (e 0 + 4 * (e 1 + 4 * pc_s 4 (fun i => e (i + 2)) (2 * n)) &&& (3 + 16 * pc_3 n)) + ((e 0 + 4 * (e 1 + 4 * pc_s 4 (fun i => e (i + 2)) (2 * n))) / 4 &&& (3 + 16 * pc_3 n)) = e 0 + e 1 + 16 * pc_s 16 (fun i => e (2 * (i + 1)) + e (2 * (i + 1) + 1)) n
    rw [show pc_s 16 (fun i => e (2 * (i + 1)) + e (2 * (i + 1) + 1)) n = pc_s 16 (fun i => e (2 * i + 2) + e (2 * i + 1 + 2)) n from rfl, ← ih1]
    generalize pc_s 4 (fun i => e (i + 2)) (2 * n) = r
    have a1 : e 0 + 4 * (e 1 + 4 * r) = (e 0 + 4 * e 1) + 2 ^ 4 * r := by omega
    have a2 : (e 0 + 4 * (e 1 + 4 * r)) / 4 = (e 1 + 4 * (r % 4)) + 2 ^ 4 * (r / 4) := by omega
    have m3 : ∀ x, x &&& 3 = x % 4 := fun x => by rw [show (3 : Nat) = 2 ^ 2 - 1 from rfl, Nat.and_two_pow_sub_one_eq_mod]
    rw [a2, a1, show 3 + 16 * pc_3 n = 3 + 2 ^ 4 * pc_3 n from rfl, pc_land _ _ (by omega) (by omega), pc_land _ _ (by omega) (by omega), m3, m3]
    omega
theorem pc_s3 : ∀ (n : Nat) (g : Nat → Nat), (∀ i, g i ≤ 4) → (pc_s 16 g (2 * n) + pc_s 16 g (2 * n) / 16) &&& pc_f n = pc_s 256 (fun i => g (2 * i) + g (2 * i + 1)) n := by
  intro n
  induction n with
  | zero => intro g _; simp [pc_s]
  | succ n ih =>
    intro g hg
    have ih1 := ih (fun i => g (i + 2)) (fun i => hg (i + 2))
    have h0 := hg 0
    have h1 := hg 1
    have h2 := hg 2
    show (g 0 + 16 * (g 1 + 16 * pc_s 16 (fun i => g (i + 2)) (2 * n)) + (g 0 + 16 * (g 1 + 16 * pc_s 16 (fun i => g (i + 2)) (2 * n))) / 16) &&& (15 + 256 * pc_f n) = g 0 + g 1 + 256 * pc_s 256 (fun i => g (2 * (i + 1)) + g (2 * (i + 1) + 1)) n
    rw [show pc_s 256 (fun i => g (2 * (i + 1)) + g (2 * (i + 1) + 1)) n = pc_s 256 (fun i => g (2 * i + 2) + g (2 * i + 1 + 2)) n from rfl, ← ih1]
    have hr : pc_s 16 (fun i => g (i + 2)) (2 * n) % 16 ≤ 4 := by
      cases n with
      | zero => exact Nat.zero_le _
      | succ n =>
        show (g 2 + 16 * pc_s 16 (fun i => g (i + 1 + 2)) (2 * n + 1)) % 16 ≤ 4
        omega
    generalize pc_s 16 (fun i => g (i + 2)) (2 * n) = r at hr ⊢
    have a1 : g 0 + 16 * (g 1 + 16 * r) + (g 0 + 16 * (g 1 + 16 * r)) / 16 = (g 0 + g 1 + 16 * (g 1 + r % 16)) + 2 ^ 8 * (r + r / 16) := by omega
    have m15 : ∀ x, x &&& 15 = x % 16 := fun x => by rw [show (15 : Nat) = 2 ^ 4 - 1 from rfl, Nat.and_two_pow_sub_one_eq_mod]
    rw [a1, show 15 + 256 * pc_f n = 15 + 2 ^ 8 * pc_f n from rfl, pc_land _ _ (by omega) (by omega), m15]
    omega
def pc_t (d : Nat → Nat) : Nat → Nat
  | 0 => 0
  | n + 1 => d 0 + pc_t (fun i => d (i + 1)) n
theorem pc_t2 : ∀ (n : Nat) (d : Nat → Nat), pc_t (fun i => d (2 * i) + d (2 * i + 1)) n = pc_t d (2 * n) := by
  intro n
  induction n with
  | zero => intro d; rfl
  | succ n ih =>
    intro d
    show d 0 + d 1 + pc_t (fun i => d (2 * (i + 1)) + d (2 * (i + 1) + 1)) n = d 0 + (d 1 + pc_t (fun i => d (i + 2)) (2 * n))
    have := ih (fun i => d (i + 2))
    rw [show pc_t (fun i => d (2 * (i + 1)) + d (2 * (i + 1) + 1)) n = pc_t (fun i => d (2 * i + 2) + d (2 * i + 1 + 2)) n from rfl, this]
    omega
theorem pc_tc (f : Nat → Bool) : ∀ (n s : Nat), pc_t (fun i => if f (i + s) then 1 else 0) n + fb_ct f s = fb_ct f (n + s) := by
  intro n
  induction n with
  | zero => intro s; rw [Nat.zero_add]; exact Nat.zero_add _
  | succ n ih =>
    intro s
    show (if f (0 + s) then 1 else 0) + pc_t (fun i => if f (i + 1 + s) then 1 else 0) n + fb_ct f s = fb_ct f (n + 1 + s)
    have h := ih (s + 1)
    rw [show n + 1 + s = n + (s + 1) by omega, ← h, fb_ct_succ, show (fun i => if f (i + 1 + s) then 1 else 0) = (fun i => if f (i + (s + 1)) then 1 else 0) from funext fun i => by rw [show i + 1 + s = i + (s + 1) by omega], Nat.zero_add]
    omega
theorem pc_bit : ∀ (n : Nat) (f : Nat → Bool), bN f (2 * n) = pc_s 4 (fun i => (if f (2 * i) then 1 else 0) + 2 * (if f (2 * i + 1) then 1 else 0)) n := by
  have low : ∀ (n : Nat) (f : Nat → Bool), bN f (n + 1) = (if f 0 then 1 else 0) + 2 * bN (fun i => f (i + 1)) n := by
    intro n
    induction n with
    | zero => intro f; show 0 + (if f 0 then 2 ^ 0 else 0) = _; cases f 0 <;> rfl
    | succ n ih =>
      intro f
      show bN f (n + 1) + (if f (n + 1) then 2 ^ (n + 1) else 0) = (if f 0 then 1 else 0) + 2 * (bN (fun i => f (i + 1)) n + (if f (n + 1) then 2 ^ n else 0))
      rw [ih f, Nat.pow_succ]
      cases f (n + 1)
      · simp
      · simp only [if_true]; omega
  intro n
  induction n with
  | zero => intro f; rfl
  | succ n ih =>
    intro f
    show bN f (2 * n + 1 + 1) = (if f 0 then 1 else 0) + 2 * (if f 1 then 1 else 0) + 4 * pc_s 4 (fun i => (if f (2 * (i + 1)) then 1 else 0) + 2 * (if f (2 * (i + 1) + 1) then 1 else 0)) n
    rw [low, low, ih (fun i => f (i + 1 + 1))]
    rw [show pc_s 4 (fun i => (if f (2 * (i + 1)) then 1 else 0) + 2 * (if f (2 * (i + 1) + 1) then 1 else 0)) n = pc_s 4 (fun i => (if f (2 * i + 1 + 1) then 1 else 0) + 2 * (if f (2 * i + 1 + 1 + 1) then 1 else 0)) n from rfl]
    simp only [Nat.zero_add]
    omega
/-- the three steps together: a byte for eight bits -/
def pc_b (f : Nat → Bool) : Nat → Nat := fun i => fb_ct f (8 * i + 8) - fb_ct f (8 * i)
theorem pc_3steps (n : Nat) (f : Nat → Bool) : ∃ s : Nat → Nat, (∀ i, s i ≤ 8) ∧ pc_t s n = fb_ct f (8 * n) ∧
    (let x := bN f (8 * n); let y := x - (x / 2 &&& pc_5 (4 * n)); let z := (y &&& pc_3 (2 * n)) + (y / 4 &&& pc_3 (2 * n)); (z + z / 16) &&& pc_f n) = pc_s 256 s n ∧
    (bN f (8 * n) / 2 &&& pc_5 (4 * n)) ≤ bN f (8 * n) := by
  have h1 := pc_bit (4 * n) f
  generalize hd : (fun i => (if f (2 * i) then 1 else 0) + 2 * (if f (2 * i + 1) then 1 else 0)) = d at h1
  have hd4 : ∀ i, d i < 4 := fun i => by
    rw [← hd]
    dsimp only
    split <;> split <;> omega
  have e2 : ∀ i, d i - d i / 2 = (if f (2 * i) then 1 else 0) + (if f (2 * i + 1) then 1 else 0) := fun i => by
    rw [← hd]
    dsimp only
    split <;> split <;> omega
  obtain ⟨s1, s1'⟩ := pc_s1 (4 * n) d hd4
  have s2 := pc_s2 (2 * n) (fun i => d i - d i / 2) (fun i => by have := hd4 i; omega)
  have s3 := pc_s3 n (fun i => (d (2 * i) - d (2 * i) / 2) + (d (2 * i + 1) - d (2 * i + 1) / 2)) (fun i => by
    rw [e2, e2]
    split <;> split <;> split <;> split <;> omega)
  refine ⟨fun i => ((d (2 * (2 * i)) - d (2 * (2 * i)) / 2) + (d (2 * (2 * i) + 1) - d (2 * (2 * i) + 1) / 2)) + ((d (2 * (2 * i + 1)) - d (2 * (2 * i + 1)) / 2) + (d (2 * (2 * i + 1) + 1) - d (2 * (2 * i + 1) + 1) / 2)), fun i => ?_, ?_, ?_, ?_⟩
  · have a := hd4 (2 * (2 * i))
    have b := hd4 (2 * (2 * i) + 1)
    have c := hd4 (2 * (2 * i + 1))
    have e := hd4 (2 * (2 * i + 1) + 1)
    dsimp only
    omega
  · rw [pc_t2 n (fun i => (d (2 * i) - d (2 * i) / 2) + (d (2 * i + 1) - d (2 * i + 1) / 2)), pc_t2 (2 * n) (fun i => d i - d i / 2), show (fun i => d i - d i / 2) = (fun i => (if f (2 * i) then 1 else 0) + (if f (2 * i + 1) then 1 else 0)) from funext e2, pc_t2 (2 * (2 * n)) (fun i => if f i then 1 else 0)]
    have h := pc_tc f (2 * (2 * (2 * n))) 0
    rw [show 8 * n = 2 * (2 * (2 * n)) by omega]
    exact h
  · rw [show 8 * n = 2 * (4 * n) by omega]
    dsimp only
    rw [h1, s1, show 4 * n = 2 * (2 * n) by omega, s2, s3]
  · rw [show 8 * n = 2 * (4 * n) by omega, h1]
    exact s1'
theorem nI_and (a b : Nat) : nI a &&& nI b = nI (a &&& b) := b_ext (fun i hi => by rw [b_and, bt_nI, bt_nI, bt_nI, Nat.testBit_and]; cases decide (i < 32) <;> simp)
theorem ush_e {n k : Nat} (hn : n < 2 ^ 32) (hk : k < 32) : k_ush (nI n) (nI k) = nI (n / 2 ^ k) := pk_ushrN hn (nI k) k (s_u k hk)
theorem lushr_e {n k : Nat} (hn : n < 2 ^ 64) (hk : k < 64) : k_lushr (lN n) (nI k) = lN (n / 2 ^ k) := wb_shr hn hk
theorem lN_and {a b : Nat} (ha : a < 2 ^ 64) (hb : b < 2 ^ 64) : lN a &&& lN b = lN (a &&& b) := wb_and ha hb
theorem dv_8 {a : Nat} (B : Nat) (h : a < 256) : (a + 256 * B) / 2 ^ 8 = B := by omega
theorem dv_16 {a b : Nat} (B : Nat) (h : a < 256) (h2 : b < 256) : (a + 256 * (b + 256 * B)) / 2 ^ 16 = B := by omega
theorem dv_32 {a b c d : Nat} (B : Nat) (h : a < 256) (h2 : b < 256) (h3 : c < 256) (h4 : d < 256) : (a + 256 * (b + 256 * (c + 256 * (d + 256 * B)))) / 2 ^ 32 = B := by omega
theorem md_6 {a : Nat} (B : Nat) (h : a < 64) : (a + 256 * B) % 2 ^ 6 = a := by omega
theorem md_7 {a : Nat} (B : Nat) (h : a < 128) : (a + 256 * B) % 2 ^ 7 = a := by omega
theorem sw_32 {a b c d : Nat} (h0 : a ≤ 8) (h1 : b ≤ 8) (h2 : c ≤ 8) (h3 : d ≤ 8) (w : Nat) (hw : w = a + 256 * (b + 256 * (c + 256 * d))) : (w + w / 2 ^ 8 + (w + w / 2 ^ 8) / 2 ^ 16) % 2 ^ 6 = a + (b + (c + d)) := by
  have e1 : w / 2 ^ 8 = b + 256 * (c + 256 * d) := by rw [hw]; exact dv_8 _ (by omega)
  have e2 : w + w / 2 ^ 8 = (a + b) + 256 * ((b + c) + 256 * ((c + d) + 256 * d)) := by rw [e1, hw]; omega
  have e3 : (w + w / 2 ^ 8) / 2 ^ 16 = (c + d) + 256 * d := by rw [e2]; exact dv_16 _ (by omega) (by omega)
  have e4 : w + w / 2 ^ 8 + (w + w / 2 ^ 8) / 2 ^ 16 = (a + (b + (c + d))) + 256 * ((b + c + d) + 256 * (c + d + 256 * d)) := by rw [e3, e2]; omega
  rw [e4]
  exact md_6 _ (by omega)
theorem ad_256 (A B Y Z : Nat) : (A + 256 * Z) + (B + 256 * Y) = (A + B) + 256 * (Z + Y) := by omega
theorem sw_a {a b c d e f g h : Nat} (w : Nat) (hw : w = a + 256 * (b + 256 * (c + 256 * (d + 256 * (e + 256 * (f + 256 * (g + 256 * h))))))) (h0 : a < 256) :
    w + w / 2 ^ 8 = (a + b) + 256 * ((b + c) + 256 * ((c + d) + 256 * ((d + e) + 256 * ((e + f) + 256 * ((f + g) + 256 * ((g + h) + 256 * h)))))) := by
  have e1 : w / 2 ^ 8 = b + 256 * (c + 256 * (d + 256 * (e + 256 * (f + 256 * (g + 256 * h))))) := by rw [hw]; exact dv_8 _ h0
  rw [e1, hw, ad_256, ad_256, ad_256, ad_256, ad_256, ad_256]
  omega
theorem sw_b {a b c d e f g h : Nat} (w : Nat) (hw : w = a + 256 * (b + 256 * (c + 256 * (d + 256 * (e + 256 * (f + 256 * (g + 256 * h))))))) (h0 : a < 256) (h1 : b < 256) :
    w + w / 2 ^ 16 = (a + c) + 256 * ((b + d) + 256 * ((c + e) + 256 * ((d + f) + 256 * ((e + g) + 256 * ((f + h) + 256 * (g + 256 * h)))))) := by
  have e1 : w / 2 ^ 16 = (c + 256 * (d + 256 * (e + 256 * (f + 256 * (g + 256 * h))))) := by rw [hw]; exact dv_16 _ h0 h1
  rw [e1, hw, ad_256, ad_256, ad_256, ad_256, ad_256]
  omega
theorem sw_c {a b c d e f g h : Nat} (w : Nat) (hw : w = a + 256 * (b + 256 * (c + 256 * (d + 256 * (e + 256 * (f + 256 * (g + 256 * h))))))) (h0 : a < 256) (h1 : b < 256) (h2 : c < 256) (h3 : d < 256) (h4 : a + e < 128) :
    (w + w / 2 ^ 32) % 2 ^ 7 = a + e := by
  have e1 : w / 2 ^ 32 = e + 256 * (f + 256 * (g + 256 * h)) := by rw [hw]; exact dv_32 _ h0 h1 h2 h3
  rw [e1, hw, ad_256]
  exact md_7 _ h4
theorem sw_64 {a b c d e f g h : Nat} (h0 : a ≤ 8) (h1 : b ≤ 8) (h2 : c ≤ 8) (h3 : d ≤ 8) (h4 : e ≤ 8) (h5 : f ≤ 8) (h6 : g ≤ 8) (h7 : h ≤ 8) (w : Nat) (hw : w = a + 256 * (b + 256 * (c + 256 * (d + 256 * (e + 256 * (f + 256 * (g + 256 * h))))))) :
    (w + w / 2 ^ 8 + (w + w / 2 ^ 8) / 2 ^ 16 + (w + w / 2 ^ 8 + (w + w / 2 ^ 8) / 2 ^ 16) / 2 ^ 32) % 2 ^ 7 = a + (b + (c + (d + (e + (f + (g + h)))))) := by
  have e1 := sw_a w hw (by omega)
  generalize w + w / 2 ^ 8 = w1 at e1 ⊢
  have e2 := sw_b w1 e1 (by omega) (by omega)
  generalize w1 + w1 / 2 ^ 16 = w2 at e2 ⊢
  rw [sw_c w2 e2 (by omega) (by omega) (by omega) (by omega) (by omega)]
  clear e1 e2 hw
  omega
theorem bc32_e (f : Nat → Bool) : f_J6_bitCount_0f7a4 (nI (bN f 32)) = nI (fb_ct f 32) := by
  obtain ⟨s, hs, ht, h3, h4⟩ := pc_3steps 4 f
  have hx := bN_lt f 32
  unfold f_J6_bitCount_0f7a4
  simp only [k_let]
  dsimp only at h3
  generalize hX : bN f (8 * 4) = x at h3 h4 hx
  generalize hY : x - (x / 2 &&& pc_5 (4 * 4)) = y at h3
  generalize hZ : (y &&& pc_3 (2 * 4)) + (y / 4 &&& pc_3 (2 * 4)) = z at h3
  have c1 : (1431655765 : Int32) = nI (pc_5 16) := by decide +kernel
  have c2 : (858993459 : Int32) = nI (pc_3 8) := by decide +kernel
  have c3 : (252645135 : Int32) = nI (pc_f 4) := by decide +kernel
  have hy : y < 2 ^ 32 := by rw [← hY]; omega
  have hm3 : pc_3 8 = 858993459 := by decide +kernel
  have hz : z < 2 ^ 32 := by
    rw [← hZ]
    have a := Nat.and_le_right (n := y) (m := pc_3 (2 * 4))
    have b := Nat.and_le_right (n := y / 4) (m := pc_3 (2 * 4))
    rw [show pc_3 (2 * 4) = 858993459 from hm3] at a b ⊢
    omega
  have hz2 : z + z / 16 < 2 ^ 32 := by
    have : z ≤ 858993459 + 858993459 := by
      rw [← hZ]
      have a := Nat.and_le_right (n := y) (m := pc_3 (2 * 4))
      have b := Nat.and_le_right (n := y / 4) (m := pc_3 (2 * 4))
      rw [show pc_3 (2 * 4) = 858993459 from hm3] at a b ⊢
      omega
    omega
  have e1 : nI x - (k_ush (nI x) 1 &&& 1431655765) = nI y := by
    rw [show (1 : Int32) = nI 1 from rfl, ush_e hx (by omega), c1, nI_and, show x / 2 ^ 1 = x / 2 from rfl, pk_sub h4, ← hY]
  have e2 : (nI y &&& 858993459) + (k_ush (nI y) 2 &&& 858993459) = nI z := by
    rw [show (2 : Int32) = nI 2 from rfl, ush_e hy (by omega), c2, nI_and, nI_and, nI_add, ← hZ]
  have e3 : (nI z + k_ush (nI z) 4) &&& 252645135 = nI (pc_s 256 s 4) := by
    rw [show (4 : Int32) = nI 4 from rfl, ush_e hz (by omega), c3, nI_add, nI_and, ← h3]
  rw [e1, e2, e3]
  have b0 := hs 0
  have b1 := hs 1
  have b2 := hs 2
  have b3 := hs 3
  have hw : pc_s 256 s 4 = s 0 + 256 * (s 1 + 256 * (s 2 + 256 * s 3)) := by show s 0 + 256 * (s 1 + 256 * (s 2 + 256 * (s 3 + 256 * 0))) = _; omega
  have htt : pc_t s 4 = s 0 + (s 1 + (s 2 + s 3)) := by show s 0 + (s 1 + (s 2 + (s 3 + 0))) = _; omega
  rw [hw, show (8 : Int32) = nI 8 from rfl, ush_e (by omega) (by omega), nI_add, show (16 : Int32) = nI 16 from rfl, ush_e (by omega) (by omega), nI_add, show (63 : Int32) = nI 63 from rfl, nI_and, show (63 : Nat) = 2 ^ 6 - 1 from rfl, Nat.and_two_pow_sub_one_eq_mod, ← ht, htt]
  exact congrArg nI (sw_32 b0 b1 b2 b3 _ rfl)
theorem bc64_e (f : Nat → Bool) : f_J13_bitCount_95d88 (lN (bN f 64)) = nI (fb_ct f 64) := by
  obtain ⟨s, hs, ht, h3, h4⟩ := pc_3steps 8 f
  have hx := bN_lt f 64
  unfold f_J13_bitCount_95d88
  simp only [k_let]
  dsimp only at h3
  generalize hX : bN f (8 * 8) = x at h3 h4 hx
  generalize hY : x - (x / 2 &&& pc_5 (4 * 8)) = y at h3
  generalize hZ : (y &&& pc_3 (2 * 8)) + (y / 4 &&& pc_3 (2 * 8)) = z at h3
  have c1 : (6148914691236517205 : Int64) = lN (pc_5 32) := by decide +kernel
  have c2 : (3689348814741910323 : Int64) = lN (pc_3 16) := by decide +kernel
  have c3 : (1085102592571150095 : Int64) = lN (pc_f 8) := by decide +kernel
  have l1 : pc_5 32 < 2 ^ 64 := by decide +kernel
  have l3 : pc_f 8 < 2 ^ 64 := by decide +kernel
  have hm3 : pc_3 16 = 3689348814741910323 := by decide +kernel
  have hy : y < 2 ^ 64 := by rw [← hY]; omega
  have hz : z ≤ 3689348814741910323 + 3689348814741910323 := by
    rw [← hZ]
    have a := Nat.and_le_right (n := y) (m := pc_3 (2 * 8))
    have b := Nat.and_le_right (n := y / 4) (m := pc_3 (2 * 8))
    rw [show pc_3 (2 * 8) = 3689348814741910323 from hm3] at a b ⊢
    omega
  have e1 : lN x - (k_lushr (lN x) 1 &&& 6148914691236517205) = lN y := by
    rw [show (1 : Int32) = nI 1 from rfl, lushr_e hx (by omega), c1, lN_and (by omega) l1, show x / 2 ^ 1 = x / 2 from rfl, lN_sub h4, ← hY]
  have e2 : (lN y &&& 3689348814741910323) + (k_lushr (lN y) 2 &&& 3689348814741910323) = lN z := by
    rw [show (2 : Int32) = nI 2 from rfl, lushr_e hy (by omega), c2, lN_and hy (by rw [hm3]; omega), lN_and (by omega) (by rw [hm3]; omega), lN_add, ← hZ]
  have e3 : (lN z + k_lushr (lN z) 4) &&& 1085102592571150095 = lN (pc_s 256 s 8) := by
    rw [show (4 : Int32) = nI 4 from rfl, lushr_e (by omega) (by omega), c3, lN_add, lN_and (by omega) l3, ← h3]
  rw [e1, e2, e3]
  have b0 := hs 0
  have b1 := hs 1
  have b2 := hs 2
  have b3 := hs 3
  have b4 := hs 4
  have b5 := hs 5
  have b6 := hs 6
  have b7 := hs 7
  have hw : pc_s 256 s 8 = s 0 + 256 * (s 1 + 256 * (s 2 + 256 * (s 3 + 256 * (s 4 + 256 * (s 5 + 256 * (s 6 + 256 * s 7)))))) := by show s 0 + 256 * (s 1 + 256 * (s 2 + 256 * (s 3 + 256 * (s 4 + 256 * (s 5 + 256 * (s 6 + 256 * (s 7 + 256 * 0))))))) = _; omega
  have htt : pc_t s 8 = s 0 + (s 1 + (s 2 + (s 3 + (s 4 + (s 5 + (s 6 + s 7)))))) := by show s 0 + (s 1 + (s 2 + (s 3 + (s 4 + (s 5 + (s 6 + (s 7 + 0))))))) = _; omega
  rw [hw, show (8 : Int32) = nI 8 from rfl, lushr_e (by omega) (by omega), lN_add, show (16 : Int32) = nI 16 from rfl, lushr_e (by omega) (by omega), lN_add, show (32 : Int32) = nI 32 from rfl, lushr_e (by omega) (by omega), lN_add, lN_i, show (127 : Int32) = nI 127 from rfl, nI_and, show (127 : Nat) = 2 ^ 7 - 1 from rfl, Nat.and_two_pow_sub_one_eq_mod, ← ht, htt]
  exact congrArg nI (sw_64 b0 b1 b2 b3 b4 b5 b6 b7 _ rfl)
theorem bN_ext (f : Nat → Bool) {n m : Nat} (h : n ≤ m) (hf : ∀ i, n ≤ i → i < m → f i = false) : bN f m = bN f n := by
  induction m with
  | zero => rw [show n = 0 by omega]
  | succ m ih =>
    rcases Nat.eq_or_lt_of_le h with g | g
    · rw [g]
    · show bN f m + (if f m then 2 ^ m else 0) = _
      rw [hf m (by omega) (by omega), ih (by omega) (fun i h1 h2 => hf i h1 (by omega))]
      rfl
theorem bcI_e {n : Nat} (hn : n ≤ 32) (f : Nat → Bool) : f_J6_bitCount_0f7a4 (bI n f) = nI (fb_ct f n) := by
  have h := bc32_e (fun i => decide (i < n) && f i)
  have e1 : bN (fun i => decide (i < n) && f i) 32 = bN f n := by
    rw [bN_ext _ hn (fun i h1 _ => by rw [decide_eq_false (by omega)]; rfl)]
    exact bN_congr (fun i hi => by rw [decide_eq_true hi]; rfl)
  have e2 : fb_ct (fun i => decide (i < n) && f i) 32 = fb_ct f n := by
    have h1 := fb_ct_split (fun i => decide (i < n) && f i) n (32 - n)
    rw [show n + (32 - n) = 32 by omega] at h1
    have h2 : fb_ct (fun k => decide (n + k < n) && f (n + k)) (32 - n) = 0 := fb_ct_zero.mpr (fun k _ => by rw [decide_eq_false (by omega)]; rfl)
    have h3 : fb_ct (fun i => decide (i < n) && f i) n = fb_ct f n := fb_ct_cong (fun k hk => by rw [decide_eq_true hk]; rfl)
    rw [h1]
    show fb_ct (fun i => decide (i < n) && f i) n + fb_ct (fun k => decide (n + k < n) && f (n + k)) (32 - n) = _
    rw [h2, h3]
    rfl
  rw [e1, e2] at h
  exact h
theorem arrowCount_e (R : Nat → Nat → Bool) : f_X2_arrowCount (eA R) = nI (fb_ct (fun i => R (i / 4) (i % 4)) 16) := bcI_e (by omega) _
