/-! ===== bytes of numbers, keys and ranks ===== -/
/-- the byte k of a long -/
def pn_by (v : Int64) (k : Nat) : Nat := v.toBitVec.toNat / 2 ^ (8 * k) % 256
theorem pn_by_lt (v : Int64) (k : Nat) : pn_by v k < 256 := Nat.mod_lt _ (by decide)
theorem pn_by_bit (v : Int64) (k i : Nat) : (pn_by v k).testBit i = (decide (i < 8) && v.toBitVec.getLsbD (8 * k + i)) := by
  unfold pn_by
  rw [show (256 : Nat) = 2 ^ 8 from rfl, Nat.testBit_mod_two_pow, Nat.testBit_div_two_pow, Nat.add_comm i]
  rfl
theorem aj_lushr_bv (v : Int64) {k : Nat} (hk : k < 8) : (aj_lushr v (8 * nI k)).toBitVec = v.toBitVec >>> (8 * k) := by
  have h1 : ∀ j : Fin 8, ((8 * nI j.val).toInt64.toUInt64 &&& Int64.toUInt64 63).toBitVec % 64 = BitVec.ofNat 64 (8 * j.val) := by decide +kernel
  unfold aj_lushr
  show (v.toUInt64 >>> ((8 * nI k).toInt64.toUInt64 &&& Int64.toUInt64 63)).toBitVec = _
  rw [UInt64.toBitVec_shiftRight, h1 ⟨k, hk⟩]
  show v.toBitVec >>> BitVec.ofNat 64 (8 * k) = _
  rw [BitVec.ushiftRight_eq', BitVec.toNat_ofNat, Nat.mod_eq_of_lt (by omega)]
theorem and255 {i : Nat} (hi : i < 32) : ((255 : Int32).toBitVec).getLsbD i = decide (i < 8) := by
  have h9 : ∀ j : Fin 32, ((255 : Int32).toBitVec).getLsbD j.val = decide (j.val < 8) := by decide +kernel
  exact h9 ⟨i, hi⟩
theorem and255L {i : Nat} (hi : i < 64) : ((255 : Int64).toBitVec).getLsbD i = decide (i < 8) := by
  have h9 : ∀ j : Fin 64, ((255 : Int64).toBitVec).getLsbD j.val = decide (j.val < 8) := by decide +kernel
  exact h9 ⟨i, hi⟩
/-- the class's byte -/
theorem by_cls (v : Int64) {k : Nat} (hk : k < 8) : (aj_lushr v (8 * nI k)).toInt32 &&& 255 = nI (pn_by v k) := by
  apply Int32.toBitVec_inj.mp
  rw [Int32.toBitVec_and, Int64.toBitVec_toInt32, aj_lushr_bv v hk, nI_bv]
  apply BitVec.eq_of_getLsbD_eq
  intro i hi
  rw [BitVec.getLsbD_and, and255 hi, BitVec.getLsbD_signExtend, BitVec.getLsbD_ofNat, pn_by_bit, BitVec.getLsbD_ushiftRight]
  by_cases h8 : i < 8
  · simp [h8, hi, show i < 64 by omega]
  · simp [h8]
/-- the reference's byte -/
theorem by_mod (v : Int64) {k : Nat} (hk : k < 8) : aj_lshr v (8 * nI k) &&& 255 = lN (pn_by v k) := by
  apply Int64.toBitVec_inj.mp
  have h1 : ∀ j : Fin 8, ((8 * nI j.val).toInt64 &&& 63).toBitVec.smod 64 = BitVec.ofNat 64 (8 * j.val) := by decide +kernel
  rw [Int64.toBitVec_and, lN_bv]
  unfold aj_lshr
  rw [Int64.toBitVec_shiftRight, h1 ⟨k, hk⟩]
  apply BitVec.eq_of_getLsbD_eq
  intro i hi
  rw [BitVec.getLsbD_and, and255L hi, BitVec.getLsbD_ofNat, pn_by_bit]
  rw [show v.toBitVec.sshiftRight' (BitVec.ofNat 64 (8 * k)) = v.toBitVec.sshiftRight (BitVec.ofNat 64 (8 * k)).toNat from rfl, BitVec.toNat_ofNat, Nat.mod_eq_of_lt (by omega), BitVec.getLsbD_sshiftRight]
  by_cases h8 : i < 8
  · simp [h8, hi, show 8 * k + i < 64 by omega, show ¬ 64 ≤ i by omega]
  · simp [h8]
theorem by_mod32 (v : Int64) {k : Nat} (hk : k < 8) : (aj_lshr v (8 * nI k) &&& 255).toInt32 = nI (pn_by v k) := by
  rw [by_mod v hk, lN_i]
/-- the lowest s bytes of a key -/
def pn_cut (v : Int64) (s : Nat) : Nat := v.toBitVec.toNat % 2 ^ (8 * s)
theorem pn_cut_lt (v : Int64) (s : Nat) : pn_cut v s < 2 ^ (8 * s) := Nat.mod_lt _ (Nat.two_pow_pos _)
theorem pn_cut_num (v : Int64) : ∀ s, pn_num (fun i => pn_by v i) 0 0 = 0 → pn_cut v (s + 1) = pn_by v s * 2 ^ (8 * s) + pn_cut v s := by
  intro s _
  unfold pn_cut pn_by
  rw [show 8 * (s + 1) = 8 * s + 8 by omega, Nat.pow_add, Nat.mod_mul, Nat.add_comm, Nat.mul_comm]
/-- the rank of a key -/
def pn_rank (s x : Nat) : Nat := x * 2 ^ (8 * (4 - s)) * 8 + s
theorem lN_shl {n k : Nat} (hk : k < 64) : aj_lshl (lN n) (nI k) = lN (n * 2 ^ k) := by
  apply Int64.toBitVec_inj.mp
  unfold aj_lshl
  rw [Int64.toBitVec_shiftLeft, lN_bv, lN_bv]
  have h1 : ∀ j : Fin 64, ((nI j.val).toInt64 &&& 63).toBitVec.smod 64 = BitVec.ofNat 64 j.val := by decide +kernel
  rw [h1 ⟨k, hk⟩]
  apply BitVec.eq_of_toNat_eq
  rw [BitVec.shiftLeft_eq', BitVec.toNat_shiftLeft, BitVec.toNat_ofNat, BitVec.toNat_ofNat, BitVec.toNat_ofNat, Nat.mod_eq_of_lt (show k < 2 ^ 64 by omega), Nat.shiftLeft_eq, Nat.mod_mul_mod]
theorem lN_or {n k b : Nat} (hb : b < 2 ^ k) : lN (n * 2 ^ k) ||| lN b = lN (n * 2 ^ k + b) := by
  apply Int64.toBitVec_inj.mp
  rw [Int64.toBitVec_or, lN_bv, lN_bv, lN_bv, BitVec.ofNat_add]
  refine (BitVec.add_eq_or_of_and_eq_zero _ _ ?_).symm
  apply BitVec.eq_of_getLsbD_eq
  intro i hi
  rw [BitVec.getLsbD_and, BitVec.getLsbD_ofNat, BitVec.getLsbD_ofNat]
  by_cases h8 : i < k
  · have h1 : (n * 2 ^ k).testBit i = false := by
      rw [Nat.mul_comm, Nat.testBit_two_pow_mul]
      simp [Nat.not_le.mpr h8]
    simp [h1]
  · have h1 : b.testBit i = false := Nat.testBit_lt_two_pow (Nat.lt_of_lt_of_le hb (Nat.pow_le_pow_right (n := 2) (by decide) (Nat.not_lt.mp h8)))
    simp [h1]
theorem lN_mask (v : Int64) {k : Nat} (hk : k ≤ 63) : v &&& lN (2 ^ k - 1) = lN (v.toBitVec.toNat % 2 ^ k) := by
  apply Int64.toBitVec_inj.mp
  rw [Int64.toBitVec_and, lN_bv, lN_bv]
  apply BitVec.eq_of_toNat_eq
  have h2 : 2 ^ k ≤ 2 ^ 63 := Nat.pow_le_pow_right (by decide) hk
  have h3 : v.toBitVec.toNat % 2 ^ k < 2 ^ k := Nat.mod_lt _ (Nat.two_pow_pos _)
  rw [BitVec.toNat_and, BitVec.toNat_ofNat, BitVec.toNat_ofNat, Nat.mod_eq_of_lt (show 2 ^ k - 1 < 2 ^ 64 by omega), Nat.and_two_pow_sub_one_eq_mod, Nat.mod_eq_of_lt (show v.toBitVec.toNat % 2 ^ k < 2 ^ 64 by omega)]
theorem pk_rank {w : aw_W} (v : Int64) {s : Nat} (h1 : 1 ≤ s) (h4 : s ≤ 4) : f_K_rank w v (nI s) = some (lN (pn_rank s (pn_cut v s))) := by
  unfold f_K_rank f_K_missingBits
  simp only [Option.bind_some]
  have e1 : ∀ j : Fin 5, 1 ≤ j.val → aj_lshl 1 (8 * nI j.val) - 1 = lN (2 ^ (8 * j.val) - 1) ∧ 8 * (4 - nI j.val) = nI (8 * (4 - j.val)) := by decide +kernel
  obtain ⟨e2, e3⟩ := e1 ⟨s, by omega⟩ h1
  rw [e2, e3, lN_mask v (by omega), lN_shl (by omega), show (3 : Int32) = nI 3 from rfl, lN_shl (by decide), nI_l (by omega), lN_or (by omega)]
  rfl
theorem pn_rank_mod {s x : Nat} (h : s < 8) : pn_rank s x % 8 = s := by
  unfold pn_rank
  omega
theorem pn_rank_lt {s x : Nat} (h1 : 1 ≤ s) (h4 : s ≤ 4) (hx : x < 2 ^ (8 * s)) : pn_rank s x < 2 ^ 35 := by
  unfold pn_rank
  rcases (show s = 1 ∨ s = 2 ∨ s = 3 ∨ s = 4 by omega) with rfl | rfl | rfl | rfl <;> omega
theorem pk_size {w : aw_W} {s x : Nat} (h : s < 8) : f_K_size w (lN (pn_rank s x)) = some (nI s) := by
  unfold f_K_size
  rw [show (7 : Int64) = lN (2 ^ 3 - 1) from rfl, lN_mask _ (by decide), lN_i, lN_bv, BitVec.toNat_ofNat]
  congr 2
  have := pn_rank_mod (x := x) h
  omega
