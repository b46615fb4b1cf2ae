def bt (x : Int32) (i : Nat) : Bool := x.toBitVec.getLsbD i
theorem b_ext {x y : Int32} (h : ∀ i, i < 32 → bt x i = bt y i) : x = y := Int32.toBitVec_inj.mp (BitVec.eq_of_getLsbD_eq (fun i hi => h i hi))
theorem b_or (x y : Int32) (i : Nat) : bt (x ||| y) i = (bt x i || bt y i) := by unfold bt; rw [Int32.toBitVec_or, BitVec.getLsbD_or]
theorem b_and (x y : Int32) (i : Nat) : bt (x &&& y) i = (bt x i && bt y i) := by unfold bt; rw [Int32.toBitVec_and, BitVec.getLsbD_and]
theorem b_xor (x y : Int32) (i : Nat) : bt (x ^^^ y) i = (bt x i ^^ bt y i) := by unfold bt; rw [Int32.toBitVec_xor, BitVec.getLsbD_xor]
theorem b_big {x : Int32} {i : Nat} (h : 32 ≤ i) : bt x i = false := BitVec.getLsbD_of_ge _ _ h
theorem b_255 (i : Nat) : bt 255 i = decide (i < 8) := by
  rcases Nat.lt_or_ge i 32 with h | h
  · exact (by decide +kernel : ∀ i, i < 32 → bt 255 i = decide (i < 8)) i h
  · rw [b_big h, decide_eq_false (by omega)]
theorem b_m1 : ∀ i, i < 32 → bt (-1) i = true := by decide +kernel
theorem b_0 (i : Nat) : bt 0 i = false := BitVec.getLsbD_zero
theorem s_l : ∀ n, n < 32 → ((nI n &&& 31).toBitVec.smod 32).toNat = n := by decide +kernel
theorem b_shl (n : Nat) (hn : n < 32) (x : Int32) {i : Nat} (hi : i < 32) : bt (x <<< (nI n &&& 31)) i = (decide (n ≤ i) && bt x (i - n)) := by
  unfold bt
  rw [Int32.toBitVec_shiftLeft]
  show (x.toBitVec <<< ((nI n &&& 31).toBitVec.smod 32).toNat).getLsbD i = _
  rw [s_l n hn, BitVec.getLsbD_shiftLeft]
  rcases Nat.lt_or_ge i n with h | h
  · simp [h, Nat.not_le.mpr h]
  · simp [hi, h, Nat.not_lt.mpr h]
theorem b_sshr (n : Nat) (hn : n < 32) (x : Int32) {i : Nat} (hi : i < 32) : bt (x >>> (nI n &&& 31)) i = if n + i < 32 then bt x (n + i) else bt x 31 := by
  unfold bt
  rw [Int32.toBitVec_shiftRight]
  show (x.toBitVec.sshiftRight ((nI n &&& 31).toBitVec.smod 32).toNat).getLsbD i = _
  rw [s_l n hn, BitVec.getLsbD_sshiftRight, BitVec.msb_eq_getLsbD_last]
  simp [hi]
/-! what the class asks of bits -/
theorem b_1 : ∀ i, i < 32 → bt 1 i = decide (i = 0) := by decide +kernel
theorem b_bit {n i : Nat} (hn : n < 32) (hi : i < 32) : bt (1 <<< (nI n &&& 31)) i = decide (i = n) := by
  rw [b_shl n hn 1 hi, b_1 (i - n) (by omega)]
  by_cases h : i = n
  · subst h
    simp
  · by_cases h2 : n ≤ i
    · have h3 : ¬ i - n = 0 := by omega
      simp [h, h2, h3]
    · simp [h, h2]
theorem b_not {x : Int32} {i : Nat} (hi : i < 32) : bt (x ^^^ (-1)) i = !bt x i := by
  rw [b_xor, b_m1 i hi]
  cases bt x i <;> rfl
theorem b_z {x : Int32} : x = 0 ↔ ∀ i, i < 32 → bt x i = false := by
  constructor
  · intro h i _
    rw [h, b_0]
  · intro h
    exact b_ext (fun i hi => by rw [h i hi, b_0])
theorem b_nz {x : Int32} {i : Nat} (h : bt x i = true) : x ≠ 0 := by
  intro e
  rw [e, b_0] at h
  cases h
theorem hb_e {x : Int32} {i : Nat} (hi : i < 32) : ((x >>> (nI i &&& 31)) &&& 1) = 0 ↔ bt x i = false := by
  rw [b_z]
  constructor
  · intro h
    have h1 := h 0 (by omega)
    rw [b_and, b_sshr i hi x (by omega), if_pos (by omega), b_1 0 (by omega)] at h1
    simpa using h1
  · intro h k hk
    rw [b_and, b_1 k hk]
    by_cases h0 : k = 0
    · subst h0
      rw [b_sshr i hi x (by omega), if_pos (by omega), Nat.add_zero, h]
      rfl
    · rw [decide_eq_false h0, Bool.and_false]
theorem hb_1 {x : Int32} {i : Nat} (hi : i < 32) : ((x >>> (nI i &&& 31)) &&& 1) = 1 ↔ bt x i = true := by
  constructor
  · intro h
    cases hb : bt x i with
    | true => rfl
    | false =>
      have := (hb_e hi).mpr hb
      rw [h] at this
      exact absurd this (by decide)
  · intro h
    apply b_ext
    intro k hk
    rw [b_and, b_1 k hk]
    by_cases h0 : k = 0
    · subst h0
      rw [b_sshr i hi x (by omega), if_pos (by omega), Nat.add_zero, h]
      rfl
    · rw [decide_eq_false h0, Bool.and_false]
theorem C_has {x : Int32} {i : Nat} {G : Hp} (hi : i < 32) : d_X8_has x (nI i) G = some (bI (bt x i)) := by
  unfold d_X8_has
  cases h : bt x i with
  | false => rw [if_pos ((hb_e hi).mpr h)]; rfl
  | true => rw [if_neg (fun q => by rw [(hb_e hi).mp q] at h; cases h)]; rfl
theorem b_bN {c : Nat → Bool} : ∀ p, p ≤ 32 → ∀ k, k < 32 → bt (bN c p) k = (decide (k < p) && c k) := by
  intro p
  induction p with
  | zero =>
    intro _ k _
    show bt 0 k = _
    rw [b_0]
    simp
  | succ p ih =>
    intro hp k hk
    show bt (cond (c p) (bN c p ||| (1 <<< (nI p &&& 31))) (bN c p)) k = _
    have e := ih (by omega) k hk
    by_cases hkp : k = p
    · subst hkp
      cases hc : c k with
      | true =>
        rw [cond_true, b_or, b_bit (by omega) hk]
        simp
      | false =>
        rw [cond_false, e]
        simp [hc]
    · have h1 : decide (k < p + 1) = decide (k < p) := by
        by_cases h2 : k < p
        · rw [decide_eq_true h2, decide_eq_true (by omega)]
        · rw [decide_eq_false h2, decide_eq_false (by omega)]
      rw [h1]
      cases c p with
      | true =>
        rw [cond_true, b_or, b_bit (by omega) hk, e, decide_eq_false hkp, Bool.or_false]
      | false => rw [cond_false, e]
theorem nbS_bN {z : Sg} {j : Nat} : ∀ q, nbS z j q = bN (fun q => nb z j q) q := by
  intro q
  induction q with
  | zero => rfl
  | succ q ih =>
    show cond (nb z j q) (nbS z j q ||| (1 <<< (nI q &&& 31))) (nbS z j q) = cond (nb z j q) (bN (fun q => nb z j q) q ||| (1 <<< (nI q &&& 31))) (bN (fun q => nb z j q) q)
    rw [ih]
theorem b_nbits {z : Sg} {j k : Nat} (hn : nR z ≤ 10) (hk : k < 32) : bt (nbits z j) k = (decide (k < nR z) && nb z j k) := by
  unfold nbits
  rw [nbS_bN, b_bN (nR z) (by omega) k hk]
theorem b_sh0 {x : Int32} {i : Nat} (hi : i < 31) : x >>> (nI i &&& 31) = 0 ↔ ∀ k, i ≤ k → k < 32 → bt x k = false := by
  rw [b_z]
  constructor
  · intro h k hk h32
    have h1 := h (k - i) (by omega)
    rw [b_sshr i (by omega) x (by omega), if_pos (by omega), show i + (k - i) = k by omega] at h1
    exact h1
  · intro h k hk
    rw [b_sshr i (by omega) x hk]
    split
    · exact h _ (by omega) (by omega)
    · exact h _ (by omega) (by omega)
/-- bits built of a small number -/
theorem bN_s (c : Nat → Bool) (p : Nat) : bN c (p + 1) = cond (c p) (bN c p ||| (1 <<< (nI p &&& 31))) (bN c p) := rfl
theorem or_n : ∀ p, p < 10 → ∀ k, k < 2 ^ p → nI k ||| (1 <<< (nI p &&& 31)) = nI (k + 2 ^ p) := by decide +kernel
theorem bN_small (c : Nat → Bool) : ∀ p, p ≤ 10 → ∃ k, k < 2 ^ p ∧ bN c p = nI k := by
  intro p
  induction p with
  | zero => intro _; exact ⟨0, by decide, rfl⟩
  | succ p ih =>
    intro hp
    obtain ⟨k, hk, e⟩ := ih (by omega)
    have h2 : 2 ^ (p + 1) = 2 ^ p + 2 ^ p := by rw [Nat.pow_succ]; omega
    rw [bN_s, e]
    cases c p with
    | true => exact ⟨k + 2 ^ p, by omega, or_n p (by omega) k hk⟩
    | false => exact ⟨k, by omega, rfl⟩
def bcN (x0 : Int32) : Int32 :=
  let v1 := x0 - ((x0.toUInt32 >>> (Int32.toUInt32 1 &&& Int32.toUInt32 31)).toInt32 &&& 1431655765)
  let v2 := (v1 &&& 858993459) + ((v1.toUInt32 >>> (Int32.toUInt32 2 &&& Int32.toUInt32 31)).toInt32 &&& 858993459)
  let v3 := (v2 + (v2.toUInt32 >>> (Int32.toUInt32 4 &&& Int32.toUInt32 31)).toInt32) &&& 252645135
  let v4 := v3 + (v3.toUInt32 >>> (Int32.toUInt32 8 &&& Int32.toUInt32 31)).toInt32
  let v5 := v4 + (v4.toUInt32 >>> (Int32.toUInt32 16 &&& Int32.toUInt32 31)).toInt32
  v5 &&& 63
theorem bc_e {x : Int32} {G : Hp} : d_J6_bitCount_0f7a4 x G = some (bcN x) := rfl
theorem bc_two : ∀ k, k < 1024 → (decide (bcN (nI k) < 2) = decide (nI k &&& (nI k - 1) = 0)) := by decide +kernel
theorem bc_nb {z : Sg} {j : Nat} (hn : nR z ≤ 10) : decide (bcN (nbits z j) < 2) = decide (nbits z j &&& (nbits z j - 1) = 0) := by
  unfold nbits
  rw [nbS_bN]
  obtain ⟨k, hk, e⟩ := bN_small (fun q => nb z j q) (nR z) hn
  rw [e]
  have h2 : 2 ^ nR z ≤ 2 ^ 10 := Nat.pow_le_pow_right (by decide) hn
  exact bc_two k (by have : (2 : Nat) ^ 10 = 1024 := by decide
                     omega)
/-- a test of two numbers, as true or false -/
theorem C_isIn {a : Int32} {n : Nat} {G : Hp} : d_X8_isIn a (nI n) G = some (bI (inR a n)) := by
  unfold d_X8_isIn inR
  by_cases h : a < 0
  · simp [h, bI]
  · by_cases h2 : nI n ≤ a
    · simp [h, h2, bI]
    · simp [h, h2, bI]
theorem inR_d {i n : Nat} (h : i < 2 ^ 31) (hn : n < 2 ^ 31) : inR (nI i) n = decide (i < n) := by
  unfold inR
  by_cases h2 : i < n
  · rw [decide_eq_true h2, decide_eq_true ⟨nI_pos h, nI_ge h2 hn⟩]
  · rw [decide_eq_false h2, decide_eq_false (fun q => q.2 (nI_le (by omega) h))]
theorem inR_m1 {n : Nat} : inR (-1) n = false := by
  unfold inR
  rw [decide_eq_false (fun q => q.1 (by decide))]
theorem C_isBetter {a b : Int32} {G : Hp} : d_X8_isBetter a b G = some (bI (better a b)) := by
  unfold d_X8_isBetter better
  by_cases h : a / 100 = b / 100
  · simp only [if_pos h, lt_ite]
    exact dec_10
  · simp only [if_neg h, lt_ite]
    exact dec_10
theorem rm4 (n : Nat) : nI n * (4 : Int32) = nI (4 * n) := by rw [Int32.mul_comm]; exact lm4 n
theorem rm16 (n : Nat) : nI n * (16 : Int32) = nI (16 * n) := by rw [Int32.mul_comm]; exact lm16 n
theorem rm17 (n : Nat) : nI n * (17 : Int32) = nI (17 * n) := by rw [Int32.mul_comm]; exact lm17 n
theorem rm26 (n : Nat) : nI n * (26 : Int32) = nI (26 * n) := by rw [Int32.mul_comm]; exact lm26 n
