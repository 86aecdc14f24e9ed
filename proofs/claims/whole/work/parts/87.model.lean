/-! ===== the reference puts numbers, sums, records ===== -/
/-- the cells of a row's bytes -/
def mCb (b i a c : Nat) : Prop := (a = b + 213 ∧ c = i) ∨ (a = b + 215 ∧ 100 * i ≤ c ∧ c < 100 * i + 100)
theorem pn_by_lN {n : Nat} (h : n < 2 ^ 64) (k : Nat) : pn_by (lN n) k = n / 2 ^ (8 * k) % 256 := by
  unfold pn_by
  rw [lN_bv, BitVec.toNat_ofNat, Nat.mod_eq_of_lt h]
theorem pn_bys_cut (v : Int64) {s : Nat} (hs : s ≤ 4) : ∀ k, k ≤ s → pn_bys (lN (pn_cut v s)) k = pn_bys v k
  | 0, _ => rfl
  | k + 1, h => by
    have h1 := pn_cut_lt v s
    have h2 : (2 : Nat) ^ (8 * s) ≤ 2 ^ 32 := Nat.pow_le_pow_right (by decide) (by omega)
    rw [pn_bys, pn_bys, pn_bys_cut v hs k (by omega), pn_by_lN (by omega), pn_cut_by v (by omega)]
theorem pn_rec_cut (time : Nat) {k : Nat} (hk : k ≤ 4) (key : Int64) (v : Nat) (value : Int64) : pn_rec time k (lN (pn_cut key k)) v value = pn_rec time k key v value := by
  unfold pn_rec pn_body
  rw [pn_bys_cut key hk k (Nat.le_refl _)]
section
variable {I : mN} {L : mL} {ρ : mQ} {s : Option Nat} {b : Nat} {t : qf} {i : Nat}
theorem M_putNumber (hP : mP b ρ) (h : mW I b i t) (hi : i < 12) (v : Int64) {n : Nat} (hn : n ≤ 8) (hl : t.2.1.length + n ≤ 100) :
    ∃ I', f_M_putNumber (s, pw_lay (pw_σ b) (I, L, ρ)) (some (b + 211)) (nI i) v (nI n) = some (s, pw_lay (pw_σ b) (I', L, ρ)) ∧ mW I' b i (t.1, t.2.1 ++ pn_bys v n, t.2.2) ∧ mfr I I' (mCb b i) := by
  unfold f_M_putNumber
  refine pw_loopG (G := fun x => ∃ I', x = some (s, pw_lay (pw_σ b) (I', L, ρ)) ∧ mW I' b i (t.1, t.2.1 ++ pn_bys v n, t.2.2) ∧ mfr I I' (mCb b i)) n
    (fun m a => ∃ I1 B1, a = (nI m - 1, (s, pw_lay (pw_σ b) (I1, L, ρ))) ∧ mW I1 b i (t.1, B1, t.2.2) ∧ mfr I I1 (mCb b i) ∧ B1 ++ pn_bys v m = t.2.1 ++ pn_bys v n ∧ m ≤ 8)
    (fun a => ∃ x I1, a = (x, (s, pw_lay (pw_σ b) (I1, L, ρ))) ∧ mW I1 b i (t.1, t.2.1 ++ pn_bys v n, t.2.2) ∧ mfr I I1 (mCb b i)) ⟨I, t.2.1, rfl, h, mfr.rfl, rfl, hn⟩ ?_ ?_
  · rintro m a ⟨I1, B1, rfl, w1, g1, e1, hm⟩
    dsimp only
    cases m with
    | zero =>
      right
      rw [pn_bys, List.append_nil] at e1
      refine ⟨_, if_pos (by decide), _, I1, rfl, by rw [← e1]; exact w1, g1⟩
    | succ m =>
      left
      have hlen : B1.length + (m + 1) = t.2.1.length + n := by
        have := congrArg List.length e1
        rw [List.length_append, List.length_append, pn_bys_len, pn_bys_len] at this
        exact this
      obtain ⟨I2, e2, w2, g2⟩ := M_putByte (s := s) (L := L) hP w1 hi (by dsimp only; omega) (pn_by v m)
      refine ⟨m, (nI m - 1, (s, pw_lay (pw_σ b) (I2, L, ρ))), Nat.lt_succ_self m, ?_, I2, B1 ++ [pn_by v m], rfl, w2, g1.trans g2, ?_, by omega⟩
      · rw [nI_pred, if_neg (nI_pos (by omega)), mM_ob, Option.bind_some, show (8 : Int32) * nI m = 8 * nI m from rfl, by_mod32 v (by omega), e2, Option.bind_some, show nI m + (-1) = nI m - 1 from (Int32.sub_eq_add_neg (nI m) 1).symm]
      · rw [← e1, pn_bys, List.append_assoc]
        rfl
  · rintro a ⟨x, I1, rfl, w1, g1⟩
    exact ⟨I1, rfl, w1, g1⟩
/-- a byte of the row is set -/
theorem mW.set (h : mW I b i t) {j : Nat} (hj : j < t.2.1.length) (x : Nat) : mW (uI I (b + 215) (100 * i + j) (nI x)) b i (t.1, t.2.1.set j x, t.2.2) := by
  obtain ⟨h1, h2, h3, h4, h5, h6, h7, h8⟩ := h
  refine ⟨?_, ?_, fun k hk => ?_, ?_, fun hn => ?_, fun k hk => ?_, ?_, fun k r hr => ?_⟩
  · rw [uI_ne (by omega), List.length_set]; exact h1
  · rw [uI_ne (by omega)]; exact h2
  · dsimp only at hk ⊢
    rw [List.length_set] at hk
    rw [getD_set hj]
    by_cases c : k = j
    · rw [c, uI_at, if_pos rfl]
    · rw [uI_ne (by omega), if_neg c]
      exact h3 k hk
  · rw [uI_ne (by omega)]; exact h4
  · rw [uI_ne (by omega)]; exact h5 hn
  · rw [uI_ne (by omega)]; exact h6 k hk
  · rw [uI_ne (by omega)]; exact h7
  · rw [uI_ne (by omega), uI_ne (by omega), uI_ne (by omega)]; exact h8 k r hr
/-- sums and numbers in a row's bytes -/
theorem M_rsum (h : mW I b i t) (hi : i < 12) (hB : qB t.2.1) (hz : t.2.1.length ≤ 100) {p k : Nat} (hp : p + k ≤ t.2.1.length) : f_M_sumOf (s, pw_lay (pw_σ b) (I, L, ρ)) (some (b + 215)) (nI (100 * i + p)) (nI (100 * i + p + k)) = some (lN (pn_sum (fun c => t.2.1.getD c 0) p k)) := by
  have e := pm_sumOf (s := s) (μ := (I, L, ρ)) (σ := pw_σ b) (a := b + 215) (N := 1200) (b := fun c => t.2.1.getD (c - 100 * i) 0) (p := 100 * i + p) (k := k) (pw_σ_at b 215) (by decide) (by omega) (fun c => hB.getD _) (fun j hj => by
    rw [Nat.add_assoc, Nat.add_sub_cancel_left]
    exact h.2.2.1 (p + j) (by omega))
  rw [e]
  congr 2
  refine pn_sum_congr fun j hj => ?_
  rw [Nat.add_assoc, Nat.add_sub_cancel_left]
theorem M_rnum (h : mW I b i t) (hi : i < 12) (hB : qB t.2.1) (hz : t.2.1.length ≤ 100) {p k : Nat} (hp : p + k ≤ t.2.1.length) : f_M_numberIn (s, pw_lay (pw_σ b) (I, L, ρ)) (some (b + 215)) (nI (100 * i + p)) (nI k) = some (lN (pn_num (fun c => t.2.1.getD c 0) p k)) := by
  have e := pm_numberIn (s := s) (μ := (I, L, ρ)) (σ := pw_σ b) (a := b + 215) (N := 1200) (b := fun c => t.2.1.getD (c - 100 * i) 0) (p := 100 * i + p) (k := k) (pw_σ_at b 215) (by decide) (by omega) (fun c => hB.getD _) (fun j hj => by
    rw [Nat.add_assoc, Nat.add_sub_cancel_left]
    exact h.2.2.1 (p + j) (by omega))
  rw [e]
  congr 2
  refine pn_num_congr k fun j hj => ?_
  rw [Nat.add_assoc, Nat.add_sub_cancel_left]
theorem M_hsum (h : mW I b i t) (hi : i < 12) (hB : qB t.2.2.2.1) (hz : t.2.2.2.1.length ≤ 104) {p k : Nat} (hp : p + k ≤ t.2.2.2.1.length) : f_M_sumOf (s, pw_lay (pw_σ b) (I, L, ρ)) (some (b + 218)) (nI (120 * i + p)) (nI (120 * i + p + k)) = some (lN (pn_sum (fun c => t.2.2.2.1.getD c 0) p k)) := by
  have e := pm_sumOf (s := s) (μ := (I, L, ρ)) (σ := pw_σ b) (a := b + 218) (N := 1440) (b := fun c => t.2.2.2.1.getD (c - 120 * i) 0) (p := 120 * i + p) (k := k) (pw_σ_at b 218) (by decide) (by omega) (fun c => hB.getD _) (fun j hj => by
    rw [Nat.add_assoc, Nat.add_sub_cancel_left]
    exact h.2.2.2.2.2.1 (p + j) (by omega))
  rw [e]
  congr 2
  refine pn_sum_congr fun j hj => ?_
  rw [Nat.add_assoc, Nat.add_sub_cancel_left]
theorem M_hnum (h : mW I b i t) (hi : i < 12) (hB : qB t.2.2.2.1) (hz : t.2.2.2.1.length ≤ 104) {p k : Nat} (hp : p + k ≤ t.2.2.2.1.length) : f_M_numberIn (s, pw_lay (pw_σ b) (I, L, ρ)) (some (b + 218)) (nI (120 * i + p)) (nI k) = some (lN (pn_num (fun c => t.2.2.2.1.getD c 0) p k)) := by
  have e := pm_numberIn (s := s) (μ := (I, L, ρ)) (σ := pw_σ b) (a := b + 218) (N := 1440) (b := fun c => t.2.2.2.1.getD (c - 120 * i) 0) (p := 120 * i + p) (k := k) (pw_σ_at b 218) (by decide) (by omega) (fun c => hB.getD _) (fun j hj => by
    rw [Nat.add_assoc, Nat.add_sub_cancel_left]
    exact h.2.2.2.2.2.1 (p + j) (by omega))
  rw [e]
  congr 2
  refine pn_num_congr k fun j hj => ?_
  rw [Nat.add_assoc, Nat.add_sub_cancel_left]
/-- four bytes are set in the midst -/
theorem pn_set4 (A C Z : List Nat) (hZ : Z.length = 4) (v : Int64) : ((((A ++ (Z ++ C)).set (A.length + 0) (pn_by v 3)).set (A.length + 1) (pn_by v 2)).set (A.length + 2) (pn_by v 1)).set (A.length + 3) (pn_by v 0) = A ++ (pn_bys v 4 ++ C) := by
  match Z, hZ with
  | [z0, z1, z2, z3], _ => simp [List.set_append_right, pn_bys]
theorem M_clearRow (hP : mP b ρ) (hi : i < 12) (n : Nat) : ∃ I', f_M_clearRow (s, pw_lay (pw_σ b) (I, L, ρ)) (some (b + 211)) (nI i) = some (s, pw_lay (pw_σ b) (I', L, ρ)) ∧ mW I' b i (n, [], 0, [], []) ∧ mfr I I' (fun a c => (a = b + 213 ∨ a = b + 214 ∨ a = b + 216 ∨ a = b + 219) ∧ c = i) := by
  refine ⟨uI (uI (uI (uI I (b + 213) i 0) (b + 214) i 0) (b + 216) i 0) (b + 219) i 0, ?_, ⟨?_, ?_, fun j hj => (by cases hj), ?_, fun hc => absurd rfl hc, fun j hj => (by cases hj), ?_, fun j r hr => (by cases hr)⟩, (((mfr.uI (by omega)).trans (mfr.uI (by omega))).trans (mfr.uI (by omega))).trans (mfr.uI (by omega))⟩
  · unfold f_M_clearRow
    rw [mg_3 hP, Option.bind_some, ms_213 hi, Option.bind_some, mg_4 hP, Option.bind_some, ms_214 hi, Option.bind_some, mg_6 hP, Option.bind_some, ms_216 hi, Option.bind_some, mg_9 hP, Option.bind_some, ms_219 hi]
    rfl
  · rw [uI_ne (by omega), uI_ne (by omega), uI_ne (by omega), uI_at]; rfl
  · rw [uI_ne (by omega), uI_ne (by omega), uI_at]; rfl
  · rw [uI_ne (by omega), uI_at]; rfl
  · rw [uI_at]; rfl
end
