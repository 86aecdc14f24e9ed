/-! ===== the sums of the two programs are one ===== -/
def pn_1 (n : Nat) : Nat := if n % 2 = 1 then (n / 2) ^^^ 3988292384 else n / 2
theorem pn_1_lt {n : Nat} (h : n < 2 ^ 32) : pn_1 n < 2 ^ 32 := by
  unfold pn_1
  split
  · exact Nat.xor_lt_two_pow (by omega) (by decide)
  · omega
theorem bv_xor (w a b : Nat) : BitVec.ofNat w a ^^^ BitVec.ofNat w b = BitVec.ofNat w (a ^^^ b) := by
  apply BitVec.eq_of_getLsbD_eq
  intro i hi
  rw [BitVec.getLsbD_xor]
  simp only [BitVec.getLsbD_ofNat, Nat.testBit_xor]
  simp [hi]
theorem nI_xor (a b : Nat) : nI a ^^^ nI b = nI (a ^^^ b) := Int32.toBitVec_inj.mp (by
  rw [Int32.toBitVec_xor]
  exact bv_xor 32 a b)
theorem lN_xor (a b : Nat) : lN a ^^^ lN b = lN (a ^^^ b) := Int64.toBitVec_inj.mp (by
  rw [Int64.toBitVec_xor]
  exact bv_xor 64 a b)
theorem nI_bv (n : Nat) : (nI n).toBitVec = BitVec.ofNat 32 n := rfl
theorem lN_bv (n : Nat) : (lN n).toBitVec = BitVec.ofNat 64 n := rfl
theorem nI_half {n : Nat} (h : n < 2 ^ 32) : aj_ushr (nI n) 1 = nI (n / 2) := by
  apply Int32.toBitVec_inj.mp
  rw [nI_bv]
  apply BitVec.eq_of_toNat_eq
  rw [BitVec.toNat_ofNat, Nat.mod_eq_of_lt (by omega)]
  show ((nI n).toUInt32 >>> ((1 : Int32).toUInt32 &&& Int32.toUInt32 31)).toNat = n / 2
  rw [UInt32.toNat_shiftRight]
  have e1 : ((1 : Int32).toUInt32 &&& Int32.toUInt32 31).toNat % 32 = 1 := by decide
  have e2 : (nI n).toUInt32.toNat = n := by
    show (BitVec.ofNat 32 n).toNat = n
    rw [BitVec.toNat_ofNat, Nat.mod_eq_of_lt h]
  rw [e1, e2, Nat.shiftRight_eq_div_pow]
theorem nI_odd {n : Nat} (h : n < 2 ^ 32) : nI n &&& 1 = 0 ↔ n % 2 = 0 := by
  rw [← Int32.toBitVec_inj, Int32.toBitVec_and]
  rw [← BitVec.toNat_inj, BitVec.toNat_and, nI_bv, BitVec.toNat_ofNat, Nat.mod_eq_of_lt h]
  show n &&& 1 = 0 ↔ _
  rw [Nat.and_one_is_mod]
theorem pw_c1_n {n : Nat} (h : n < 2 ^ 32) : pw_c1 (nI n) = nI (pn_1 n) := by
  unfold pw_c1 pn_1
  rw [nI_half h]
  by_cases ho : n % 2 = 0
  · rw [if_pos ((nI_odd h).mpr ho), if_neg (by omega)]
  · rw [if_neg (fun hc => ho ((nI_odd h).mp hc)), if_pos (by omega), ← nI_xor]
    rfl
def pn_8 (n : Nat) : Nat → Nat
  | 0 => n
  | k + 1 => pn_1 (pn_8 n k)
theorem pn_8_lt {n : Nat} (h : n < 2 ^ 32) : ∀ k, pn_8 n k < 2 ^ 32
  | 0 => h
  | k + 1 => pn_1_lt (pn_8_lt h k)
theorem pw_c8_n {n : Nat} (h : n < 2 ^ 32) : ∀ k, pw_c8 (nI n) k = nI (pn_8 n k)
  | 0 => rfl
  | k + 1 => by
    show pw_c1 (pw_c8 (nI n) k) = _
    rw [pw_c8_n h k, pw_c1_n (pn_8_lt h k)]
    rfl
/-- the sum of k bytes from p on, as a number -/
def pn_cr (b : Nat → Nat) (p : Nat) : Nat → Nat
  | 0 => 4294967295
  | k + 1 => pn_8 (pn_cr b p k ^^^ b (p + k)) 8
theorem pn_cr_lt {b : Nat → Nat} (hb : ∀ i, b i < 256) (p : Nat) : ∀ k, pn_cr b p k < 2 ^ 32
  | 0 => show 4294967295 < 2 ^ 32 by decide
  | k + 1 => pn_8_lt (Nat.xor_lt_two_pow (pn_cr_lt hb p k) (Nat.lt_of_lt_of_le (hb _) (by decide))) 8
theorem pw_cr_n {b : Nat → Nat} (hb : ∀ i, b i < 256) (p : Nat) : ∀ k, pw_cr (fun i => nI (b i)) p k = nI (pn_cr b p k)
  | 0 => show (-1 : Int32) = nI 4294967295 by decide
  | k + 1 => by
    show pw_c8 (pw_cr (fun i => nI (b i)) p k ^^^ nI (b (p + k))) 8 = _
    rw [pw_cr_n hb p k, nI_xor, pw_c8_n (Nat.xor_lt_two_pow (pn_cr_lt hb p k) (Nat.lt_of_lt_of_le (hb _) (by decide)))]
    rfl
def pn_sum (b : Nat → Nat) (p k : Nat) : Nat := 4294967295 - pn_cr b p k
theorem nat_xor_ones {n : Nat} (h : n < 2 ^ 32) : n ^^^ 4294967295 = 4294967295 - n := by
  have h1 : (~~~ (BitVec.ofNat 32 n)).toNat = 2 ^ 32 - 1 - (BitVec.ofNat 32 n).toNat := BitVec.toNat_not
  have h2 : ~~~ (BitVec.ofNat 32 n) = BitVec.ofNat 32 n ^^^ BitVec.allOnes 32 := (BitVec.xor_allOnes).symm
  have h3 : (BitVec.ofNat 32 n).toNat = n := by rw [BitVec.toNat_ofNat, Nat.mod_eq_of_lt h]
  rw [h2, BitVec.toNat_xor, h3] at h1
  exact h1
theorem pw_sum_n {b : Nat → Nat} (hb : ∀ i, b i < 256) (p k : Nat) : pw_sum (fun i => nI (b i)) p k = lN (pn_sum b p k) := by
  unfold pw_sum pn_sum
  have hc := pn_cr_lt hb p k
  rw [pw_cr_n hb, show (-1 : Int32) = nI 4294967295 from by decide, nI_xor, nat_xor_ones hc]
  have hm : 4294967295 - pn_cr b p k < 2 ^ 32 := by omega
  generalize 4294967295 - pn_cr b p k = m at hm ⊢
  apply Int64.toBitVec_inj.mp
  rw [Int64.toBitVec_and, Int32.toBitVec_toInt64, nI_bv, lN_bv]
  apply BitVec.eq_of_getLsbD_eq
  intro i hi
  rw [BitVec.getLsbD_and, BitVec.getLsbD_signExtend, BitVec.getLsbD_ofNat, BitVec.getLsbD_ofNat]
  have ones : ∀ j : Fin 64, (Int64.toBitVec 4294967295).getLsbD j.val = decide (j.val < 32) := by decide +kernel
  rw [ones ⟨i, hi⟩]
  by_cases h32 : i < 32
  · simp [h32, hi]
  · have hz : m.testBit i = false := Nat.testBit_lt_two_pow (Nat.lt_of_lt_of_le hm (Nat.pow_le_pow_right (by decide) (Nat.not_lt.mp h32)))
    simp [h32, hz]
/-! the reference's sums -/
theorem lN_toInt' {n : Nat} (h : n < 2 ^ 63) : (lN n).toInt = (n : Int) := lg_ofNat_toInt h
theorem lN_div2 {n : Nat} (h : n < 2 ^ 63) : lN n / 2 = lN (n / 2) := by
  apply Int64.toInt_inj.mp
  rw [Int64.toInt_div, lN_toInt' h, lN_toInt' (by omega), show (2 : Int64).toInt = 2 from by decide, Int.bmod_def]
  have e1 : (n : Int).tdiv 2 = ((n / 2 : Nat) : Int) := by
    rw [Int.tdiv_eq_ediv_of_nonneg (by omega)]
    omega
  rw [e1]
  split <;> omega
theorem lN_rem2 {n : Nat} (h : n < 2 ^ 63) : lN n - lN n / 2 * 2 = lN (n % 2) := by
  rw [lN_div2 h, show (2 : Int64) = lN 2 from rfl, lN_mul, lN_sub (by omega)]
  congr 1
  omega
