/-! ===== the reference's sums and numbers ===== -/
theorem pm_summed {w : aw_W} {n b : Nat} (hn : n < 2 ^ 32) (hb : b < 256) : f_M_summed w (lN n) (nI b) = some (lN (pn_8 (n ^^^ b) 8)) := by
  have hx : n ^^^ b < 2 ^ 32 := Nat.xor_lt_two_pow hn (Nat.lt_of_lt_of_le hb (by decide))
  unfold f_M_summed
  rw [nI_l (by omega), lN_xor]
  refine (pw_loop (lN (pn_8 (n ^^^ b) 8), 8) 8 (fun j => (lN (pn_8 (n ^^^ b) j), nI j)) rfl (fun j hj => ?_) ?_).trans rfl
  · have hl := pn_8_lt hx j
    dsimp only
    rw [if_neg (show ¬ (8 : Int32) ≤ nI j from nI_ge (b := 8) hj (by omega)), lN_rem2 (by omega), lN_div2 (by omega)]
    have h1 : (if lg_cmp (lN (pn_8 (n ^^^ b) j % 2)) 1 = 0 then some (lN (pn_8 (n ^^^ b) j / 2) ^^^ 3988292384) else some (lN (pn_8 (n ^^^ b) j / 2)) : Option Int64) = some (lN (pn_8 (n ^^^ b) (j + 1))) := by
      show _ = some (lN (pn_1 (pn_8 (n ^^^ b) j)))
      unfold pn_1
      by_cases ho : pn_8 (n ^^^ b) j % 2 = 1
      · rw [if_pos ((lg_cmp_eq _ _).mpr (by rw [ho]; rfl)), if_pos ho, show (3988292384 : Int64) = lN 3988292384 from rfl, lN_xor]
      · have hno : ¬ lg_cmp (lN (pn_8 (n ^^^ b) j % 2)) 1 = 0 := fun hc => ho ((lN_eq (a := pn_8 (n ^^^ b) j % 2) (b := 1) (by omega) (by decide)).mp ((lg_cmp_eq _ _).mp hc))
        rw [if_neg hno, if_neg ho]
    rw [h1]
    simp only [Option.bind_some]
    rw [nI_1]
  · dsimp only
    rw [if_pos (show (8 : Int32) ≤ nI 8 by decide)]
    rfl
/-- the number in k bytes from p on -/
def pn_num (b : Nat → Nat) (p : Nat) : Nat → Nat
  | 0 => 0
  | k + 1 => pn_num b p k * 256 + b (p + k)
section
variable {σ : Nat → Option pw_Sh} {μ : pw_Mem} {s : Option Nat} {a N : Nat} {b : Nat → Nat}
theorem pm_get (h : σ a = some (.inl (1, N))) (hN : N < 2 ^ 31) {i : Nat} (hi : i < N) : aw_aI (s, pw_lay σ μ) (some a) 1 (nI i) = some (μ.1 a i) := by
  rw [pw_aI_1, pw_aa_of h]
  simp only [Option.bind_some]
  rw [aw_ix_nI hi hN]
  rfl
theorem pm_put (h : σ a = some (.inl (1, N))) (hN : N < 2 ^ 31) {i : Nat} (hi : i < N) (x : Int32) : aw_sI (s, pw_lay σ μ) (some a) 1 (nI i) x = some (s, pw_lay σ (pw_sI μ a i x)) := by
  rw [pw_sI_1, pw_aa_of h]
  simp only [Option.bind_some]
  rw [aw_ix_nI hi hN]
  rfl
theorem pm_sumOf (h : σ a = some (.inl (1, N))) (hN : N < 2 ^ 31) {p k : Nat} (hp : p + k ≤ N) (hb : ∀ i, b i < 256) (hv : ∀ j, j < k → μ.1 a (p + j) = nI (b (p + j))) : f_M_sumOf (s, pw_lay σ μ) (some a) (nI p) (nI (p + k)) = some (lN (pn_sum b p k)) := by
  unfold f_M_sumOf
  refine (pw_loop (lN (pn_cr b p k), nI (p + k)) k (fun j => (lN (pn_cr b p j), nI (p + j))) rfl (fun j hj => ?_) ?_).trans ?_
  · dsimp only
    rw [if_neg (nI_ge (by omega) (by omega)), pm_get h hN (by omega), hv j hj]
    simp only [Option.bind_some]
    rw [pm_summed (pn_cr_lt hb p j) (hb _)]
    simp only [Option.bind_some]
    rw [nI_1]
    rfl
  · dsimp only
    rw [if_pos (nI_le (Nat.le_refl _) (by omega))]
  · have hl := pn_cr_lt hb p k
    show some (4294967295 - lN (pn_cr b p k)) = _
    rw [show (4294967295 : Int64) = lN 4294967295 from rfl, lN_sub (by omega)]
    rfl
theorem pm_numberIn (h : σ a = some (.inl (1, N))) (hN : N < 2 ^ 31) {p k : Nat} (hp : p + k ≤ N) (hb : ∀ i, b i < 256) (hv : ∀ j, j < k → μ.1 a (p + j) = nI (b (p + j))) : f_M_numberIn (s, pw_lay σ μ) (some a) (nI p) (nI k) = some (lN (pn_num b p k)) := by
  unfold f_M_numberIn
  refine (pw_loop (lN (pn_num b p k), nI k) k (fun j => (lN (pn_num b p j), nI j)) rfl (fun j hj => ?_) ?_).trans rfl
  · dsimp only
    rw [if_neg (nI_ge hj (by omega)), nI_add, pm_get h hN (by omega), hv j hj]
    simp only [Option.bind_some]
    have hb' := hb (p + j)
    rw [nI_1, nI_l (by omega), show (256 : Int64) = lN 256 from rfl, lN_mul, lN_add]
    rfl
  · dsimp only
    rw [if_pos (nI_le (Nat.le_refl _) (by omega))]
end
theorem lN_shl8 (n : Nat) : aj_lshl (lN n) 8 = lN (n * 256) := by
  apply Int64.toBitVec_inj.mp
  unfold aj_lshl
  rw [Int64.toBitVec_shiftLeft, lN_bv, lN_bv]
  have e1 : ((8 : Int32).toInt64 &&& 63).toBitVec.smod 64 = 8#64 := by decide
  rw [e1]
  apply BitVec.eq_of_toNat_eq
  rw [BitVec.shiftLeft_eq', BitVec.toNat_shiftLeft, BitVec.toNat_ofNat, BitVec.toNat_ofNat]
  show (n % 2 ^ 64) <<< 8 % 2 ^ 64 = _
  rw [Nat.shiftLeft_eq, Nat.mod_mul_mod, BitVec.toNat_ofNat]
theorem lN_or8 (n : Nat) {b : Nat} (hb : b < 256) : lN (n * 256) ||| lN b = lN (n * 256 + b) := by
  apply Int64.toBitVec_inj.mp
  rw [Int64.toBitVec_or, lN_bv, lN_bv, lN_bv, BitVec.ofNat_add]
  refine (BitVec.add_eq_or_of_and_eq_zero _ _ ?_).symm
  apply BitVec.eq_of_getLsbD_eq
  intro i hi
  rw [BitVec.getLsbD_and, BitVec.getLsbD_ofNat, BitVec.getLsbD_ofNat]
  by_cases h8 : i < 8
  · have h1 : (n * 256).testBit i = false := by
      rw [show n * 256 = 2 ^ 8 * n by omega, Nat.testBit_two_pow_mul]
      simp [Nat.not_le.mpr h8]
    simp [h1]
  · have h1 : b.testBit i = false := Nat.testBit_lt_two_pow (Nat.lt_of_lt_of_le hb (Nat.pow_le_pow_right (n := 2) (by decide) (Nat.not_lt.mp h8)))
    simp [h1]
theorem pw_num_n {b : Nat → Nat} (hb : ∀ i, b i < 256) (p : Nat) : ∀ k, pw_num (fun i => nI (b i)) p k = lN (pn_num b p k)
  | 0 => rfl
  | k + 1 => by
    have hb' := hb (p + k)
    show aj_lshl (pw_num (fun i => nI (b i)) p k) 8 ||| (nI (b (p + k))).toInt64 = _
    rw [pw_num_n hb p k, nI_l (by omega), lN_shl8, lN_or8 _ hb']
    rfl
