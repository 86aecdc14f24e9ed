/-! ===== keys and ranks, on ===== -/
theorem lN_ushr {n k : Nat} (hn : n < 2 ^ 64) (hk : k < 64) : aj_lushr (lN n) (nI k) = lN (n / 2 ^ k) := by
  apply Int64.toBitVec_inj.mp
  have h1 : ∀ j : Fin 64, ((nI j.val).toInt64.toUInt64 &&& Int64.toUInt64 63).toBitVec % 64 = BitVec.ofNat 64 j.val := by decide +kernel
  unfold aj_lushr
  show ((lN n).toUInt64 >>> ((nI k).toInt64.toUInt64 &&& Int64.toUInt64 63)).toBitVec = _
  rw [UInt64.toBitVec_shiftRight, h1 ⟨k, hk⟩]
  show BitVec.ofNat 64 n >>> BitVec.ofNat 64 k = _
  rw [lN_bv]
  apply BitVec.eq_of_toNat_eq
  have h2 : n / 2 ^ k ≤ n := Nat.div_le_self _ _
  rw [BitVec.ushiftRight_eq', BitVec.toNat_ushiftRight, BitVec.toNat_ofNat, BitVec.toNat_ofNat, BitVec.toNat_ofNat, Nat.mod_eq_of_lt hn, Nat.mod_eq_of_lt (show k < 2 ^ 64 by omega), Nat.mod_eq_of_lt (show n / 2 ^ k < 2 ^ 64 by omega), Nat.shiftRight_eq_div_pow]
theorem pk_number {w : aw_W} {s x : Nat} (h1 : 1 ≤ s) (h4 : s ≤ 4) (hx : x < 2 ^ (8 * s)) : f_K_number w (lN (pn_rank s x)) = some (lN x) := by
  unfold f_K_number
  rw [pk_size (by omega)]
  unfold f_K_missingBits
  simp only [Option.bind_some]
  have e1 : ∀ j : Fin 5, 8 * (4 - nI j.val) = nI (8 * (4 - j.val)) := by decide +kernel
  have hr := pn_rank_lt h1 h4 hx
  have h8 : pn_rank s x / 2 ^ 3 = x * 2 ^ (8 * (4 - s)) := by
    unfold pn_rank
    omega
  rw [e1 ⟨s, by omega⟩, show (3 : Int32) = nI 3 from rfl, lN_ushr (by omega) (by decide), lN_ushr (by omega) (by omega), h8, Nat.mul_div_cancel _ (Nat.two_pow_pos _)]
theorem pn_rank_inj {s t x y : Nat} (h1 : s < 8) (h2 : t < 8) : pn_rank s x = pn_rank t y ↔ s = t ∧ x = y := by
  refine ⟨fun h => ?_, fun h => by rw [h.1, h.2]⟩
  have hs : s = t := by
    have a := pn_rank_mod (x := x) h1
    have b := pn_rank_mod (x := y) h2
    rw [h] at a
    omega
  subst hs
  refine ⟨rfl, ?_⟩
  unfold pn_rank at h
  have : x * 2 ^ (8 * (4 - s)) = y * 2 ^ (8 * (4 - s)) := by omega
  exact Nat.eq_of_mul_eq_mul_right (Nat.two_pow_pos _) this
theorem pn_cut_by (v : Int64) {s k : Nat} (h : k < s) : pn_cut v s / 2 ^ (8 * k) % 256 = pn_by v k := by
  unfold pn_cut pn_by
  rw [show (256 : Nat) = 2 ^ 8 from rfl]
  apply Nat.eq_of_testBit_eq
  intro i
  rw [Nat.testBit_mod_two_pow, Nat.testBit_mod_two_pow, Nat.testBit_div_two_pow, Nat.testBit_div_two_pow, Nat.testBit_mod_two_pow]
  by_cases h8 : i < 8
  · simp [h8, show i + 8 * k < 8 * s by omega]
  · simp [h8]
theorem pn_cut_step (v : Int64) {s k : Nat} (h : k < s) : pn_cut v s / 2 ^ (8 * (k + 1)) * 256 + pn_by v k = pn_cut v s / 2 ^ (8 * k) := by
  have e1 := pn_cut_by v h
  rw [show 8 * (k + 1) = 8 * k + 8 by omega, Nat.pow_add, ← Nat.div_div_eq_div_mul, show (2 : Nat) ^ 8 = 256 from rfl]
  omega
theorem pm_cut {w : aw_W} (v : Int64) {s : Nat} (h4 : s ≤ 8) : f_M_cut w v (nI s) = some (lN (pn_cut v s)) := by
  unfold f_M_cut
  refine (pw_loop (lN (pn_cut v s), -1) s (fun j => (lN (pn_cut v s / 2 ^ (8 * (s - j))), nI (s - j) - 1)) ?_ (fun j hj => ?_) ?_).trans rfl
  · show (lN (pn_cut v s / 2 ^ (8 * (s - 0))), nI (s - 0) - 1) = _
    rw [Nat.sub_zero, Nat.div_eq_of_lt (pn_cut_lt v s)]
    rfl
  · obtain ⟨k, hk⟩ : ∃ k, s - j = k + 1 := ⟨s - j - 1, by omega⟩
    dsimp only
    rw [hk, nI_pred, if_neg (nI_pos (by omega)), show (8 : Int32) * nI k = 8 * nI k from rfl, by_mod v (by omega), lN_shl8, lN_or8 _ (pn_by_lt v k), pn_cut_step v (by omega), show s - (j + 1) = k by omega]
    rw [show nI k + (-1) = nI k - 1 from (Int32.sub_eq_add_neg (nI k) 1).symm]
  · dsimp only
    rw [Nat.sub_self, if_pos (by decide)]
    simp only [Nat.mul_zero, Nat.pow_zero, Nat.div_one]
    rfl
theorem pk_valueBytes {w : aw_W} {n : Nat} (hn : n < 2 ^ 31) : f_Y_valueBytes w (nI n) = some (nI (if n = 255 then 0 else n)) := by
  unfold f_Y_valueBytes
  by_cases h : n = 255
  · subst h
    rw [if_pos rfl, if_pos (by decide)]
    rfl
  · rw [if_neg h, if_neg (fun hc => h ((nI_eq hn (by decide)).mp (hc.trans (show (255 : Int32) = nI 255 from rfl))))]
    rfl
/-- a record's length -/
def pn_len (k v : Nat) : Nat := 8 + k + if v = 255 then 0 else v
theorem pk_recordBytes {w : aw_W} {k n : Nat} (hn : n < 2 ^ 31) : f_Y_recordBytes w (nI k) (nI n) = some (nI (pn_len k n)) := by
  unfold f_Y_recordBytes
  rw [pk_valueBytes hn]
  simp only [Option.bind_some]
  rw [show (8 : Int32) = nI 8 from rfl, nI_add, nI_add]
  rfl
theorem pm_lengthOf {w : aw_W} {k n : Nat} (hn : n < 2 ^ 31) : f_M_lengthOf w (nI k) (nI n) = some (nI (pn_len k n)) := by
  unfold f_M_lengthOf
  have h1 : (if nI n = (255 : Int32) then some (0 : Int32) else some (nI n) : Option Int32) = some (nI (if n = 255 then 0 else n)) := by
    by_cases h : n = 255
    · subst h
      rw [if_pos rfl, if_pos (by decide)]
      rfl
    · rw [if_neg h, if_neg (fun hc => h ((nI_eq hn (by decide)).mp (hc.trans (show (255 : Int32) = nI 255 from rfl))))]
  rw [h1]
  simp only [Option.bind_some]
  rw [show (8 : Int32) = nI 8 from rfl, nI_add, nI_add]
  rfl
