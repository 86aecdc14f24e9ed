/-! ===== the reference: its fields and arrays ===== -/
/-- the reference's arrays never move -/
def mP (b : Nat) (ρ : Nat → Nat → Option Nat) : Prop := ∀ k, (2 ≤ k ∧ k ≤ 14) ∨ (16 ≤ k ∧ k ≤ 19) → ρ (b + 211) k = some (b + if k ≤ 14 then 210 + k else 209 + k)
abbrev mN : Type := Nat → Nat → Int32
abbrev mL : Type := Nat → Nat → Int64
abbrev mQ : Type := Nat → Nat → Option Nat
/-- a number is set -/
def uI (I : mN) (a k : Nat) (x : Int32) : mN := fun b j => if b = a ∧ j = k then x else I b j
def uL (L : mL) (a k : Nat) (x : Int64) : mL := fun b j => if b = a ∧ j = k then x else L b j
theorem uI_at {I : mN} {a k : Nat} {x : Int32} : uI I a k x a k = x := if_pos ⟨rfl, rfl⟩
theorem uI_ne {I : mN} {a k b j : Nat} {x : Int32} (h : ¬ (b = a ∧ j = k)) : uI I a k x b j = I b j := if_neg h
theorem uL_at {L : mL} {a k : Nat} {x : Int64} : uL L a k x a k = x := if_pos ⟨rfl, rfl⟩
theorem uL_ne {L : mL} {a k b j : Nat} {x : Int64} (h : ¬ (b = a ∧ j = k)) : uL L a k x b j = L b j := if_neg h
section
variable {I : mN} {L : mL} {ρ : mQ} {s : Option Nat} {b : Nat}
theorem mM_sh : pw_σ b (b + 211) = some (.inr 7) := pw_σ_at b 211
theorem mM_ob : aw_obj (s, pw_lay (pw_σ b) (I, L, ρ)) (some (b + 211)) 7 = some (b + 211, pw_fs (I, L, ρ) (b + 211) 7) := by rw [pw_obj, pw_ob_of mM_sh]; rfl
theorem mf_0 : aw_gI (s, pw_lay (pw_σ b) (I, L, ρ)) (some (b + 211)) 7 0 = some (I (b + 211) 0) := by rw [pg_M_0, pw_ob_of mM_sh]; rfl
theorem mw_0 {x : Int32} : aw_pV (s, pw_lay (pw_σ b) (I, L, ρ)) (some (b + 211)) 7 0 (.int x) = some (s, pw_lay (pw_σ b) (uI I (b + 211) 0 x, L, ρ)) := by rw [pp_M_0, pw_ob_of mM_sh]; rfl
theorem mf_1 : aw_gI (s, pw_lay (pw_σ b) (I, L, ρ)) (some (b + 211)) 7 1 = some (I (b + 211) 1) := by rw [pg_M_1, pw_ob_of mM_sh]; rfl
theorem mw_1 {x : Int32} : aw_pV (s, pw_lay (pw_σ b) (I, L, ρ)) (some (b + 211)) 7 1 (.int x) = some (s, pw_lay (pw_σ b) (uI I (b + 211) 1 x, L, ρ)) := by rw [pp_M_1, pw_ob_of mM_sh]; rfl
theorem mf_15 : aw_gI (s, pw_lay (pw_σ b) (I, L, ρ)) (some (b + 211)) 7 15 = some (I (b + 211) 15) := by rw [pg_M_15, pw_ob_of mM_sh]; rfl
theorem mw_15 {x : Int32} : aw_pV (s, pw_lay (pw_σ b) (I, L, ρ)) (some (b + 211)) 7 15 (.int x) = some (s, pw_lay (pw_σ b) (uI I (b + 211) 15 x, L, ρ)) := by rw [pp_M_15, pw_ob_of mM_sh]; rfl
theorem mf_20 : aw_gI (s, pw_lay (pw_σ b) (I, L, ρ)) (some (b + 211)) 7 20 = some (I (b + 211) 20) := by rw [pg_M_20, pw_ob_of mM_sh]; rfl
theorem mw_20 {x : Int32} : aw_pV (s, pw_lay (pw_σ b) (I, L, ρ)) (some (b + 211)) 7 20 (.int x) = some (s, pw_lay (pw_σ b) (uI I (b + 211) 20 x, L, ρ)) := by rw [pp_M_20, pw_ob_of mM_sh]; rfl
theorem mf_21 : aw_gI (s, pw_lay (pw_σ b) (I, L, ρ)) (some (b + 211)) 7 21 = some (I (b + 211) 21) := by rw [pg_M_21, pw_ob_of mM_sh]; rfl
theorem mw_21 {x : Int32} : aw_pV (s, pw_lay (pw_σ b) (I, L, ρ)) (some (b + 211)) 7 21 (.int x) = some (s, pw_lay (pw_σ b) (uI I (b + 211) 21 x, L, ρ)) := by rw [pp_M_21, pw_ob_of mM_sh]; rfl
theorem mf_22 : aw_gI (s, pw_lay (pw_σ b) (I, L, ρ)) (some (b + 211)) 7 22 = some (I (b + 211) 22) := by rw [pg_M_22, pw_ob_of mM_sh]; rfl
theorem mw_22 {x : Int32} : aw_pV (s, pw_lay (pw_σ b) (I, L, ρ)) (some (b + 211)) 7 22 (.int x) = some (s, pw_lay (pw_σ b) (uI I (b + 211) 22 x, L, ρ)) := by rw [pp_M_22, pw_ob_of mM_sh]; rfl
theorem mf_23 : aw_gI (s, pw_lay (pw_σ b) (I, L, ρ)) (some (b + 211)) 7 23 = some (I (b + 211) 23) := by rw [pg_M_23, pw_ob_of mM_sh]; rfl
theorem mw_23 {x : Int32} : aw_pV (s, pw_lay (pw_σ b) (I, L, ρ)) (some (b + 211)) 7 23 (.int x) = some (s, pw_lay (pw_σ b) (uI I (b + 211) 23 x, L, ρ)) := by rw [pp_M_23, pw_ob_of mM_sh]; rfl
theorem mf_24 : aw_gI (s, pw_lay (pw_σ b) (I, L, ρ)) (some (b + 211)) 7 24 = some (I (b + 211) 24) := by rw [pg_M_24, pw_ob_of mM_sh]; rfl
theorem mw_24 {x : Int32} : aw_pV (s, pw_lay (pw_σ b) (I, L, ρ)) (some (b + 211)) 7 24 (.int x) = some (s, pw_lay (pw_σ b) (uI I (b + 211) 24 x, L, ρ)) := by rw [pp_M_24, pw_ob_of mM_sh]; rfl
theorem mf_25 : aw_gI (s, pw_lay (pw_σ b) (I, L, ρ)) (some (b + 211)) 7 25 = some (I (b + 211) 25) := by rw [pg_M_25, pw_ob_of mM_sh]; rfl
theorem mw_25 {x : Int32} : aw_pV (s, pw_lay (pw_σ b) (I, L, ρ)) (some (b + 211)) 7 25 (.int x) = some (s, pw_lay (pw_σ b) (uI I (b + 211) 25 x, L, ρ)) := by rw [pp_M_25, pw_ob_of mM_sh]; rfl
theorem mf_26 : aw_gI (s, pw_lay (pw_σ b) (I, L, ρ)) (some (b + 211)) 7 26 = some (I (b + 211) 26) := by rw [pg_M_26, pw_ob_of mM_sh]; rfl
theorem mw_26 {x : Int32} : aw_pV (s, pw_lay (pw_σ b) (I, L, ρ)) (some (b + 211)) 7 26 (.int x) = some (s, pw_lay (pw_σ b) (uI I (b + 211) 26 x, L, ρ)) := by rw [pp_M_26, pw_ob_of mM_sh]; rfl
theorem mf_27 : aw_gI (s, pw_lay (pw_σ b) (I, L, ρ)) (some (b + 211)) 7 27 = some (I (b + 211) 27) := by rw [pg_M_27, pw_ob_of mM_sh]; rfl
theorem mw_27 {x : Int32} : aw_pV (s, pw_lay (pw_σ b) (I, L, ρ)) (some (b + 211)) 7 27 (.int x) = some (s, pw_lay (pw_σ b) (uI I (b + 211) 27 x, L, ρ)) := by rw [pp_M_27, pw_ob_of mM_sh]; rfl
theorem mf_28 : aw_gI (s, pw_lay (pw_σ b) (I, L, ρ)) (some (b + 211)) 7 28 = some (I (b + 211) 28) := by rw [pg_M_28, pw_ob_of mM_sh]; rfl
theorem mw_28 {x : Int32} : aw_pV (s, pw_lay (pw_σ b) (I, L, ρ)) (some (b + 211)) 7 28 (.int x) = some (s, pw_lay (pw_σ b) (uI I (b + 211) 28 x, L, ρ)) := by rw [pp_M_28, pw_ob_of mM_sh]; rfl
theorem mg_2 (h : mP b ρ) : aw_gR (s, pw_lay (pw_σ b) (I, L, ρ)) (some (b + 211)) 7 2 = some (some (b + 212)) := by rw [pg_M_2, pw_ob_of mM_sh]; exact congrArg some (h 2 (by decide))
theorem ma_212 {i : Nat} (hi : i < 12) : aw_aI (s, pw_lay (pw_σ b) (I, L, ρ)) (some (b + 212)) 1 (nI i) = some (I (b + 212) i) := by rw [pw_aI_1, pw_aa_of (pw_σ_at b 212)]; simp only [Option.bind_some]; rw [aw_ix_nI hi (by decide)]; rfl
theorem ms_212 {i : Nat} (hi : i < 12) (x : Int32) : aw_sI (s, pw_lay (pw_σ b) (I, L, ρ)) (some (b + 212)) 1 (nI i) x = some (s, pw_lay (pw_σ b) (uI I (b + 212) i x, L, ρ)) := by rw [pw_sI_1, pw_aa_of (pw_σ_at b 212)]; simp only [Option.bind_some]; rw [aw_ix_nI hi (by decide)]; rfl
theorem mg_3 (h : mP b ρ) : aw_gR (s, pw_lay (pw_σ b) (I, L, ρ)) (some (b + 211)) 7 3 = some (some (b + 213)) := by rw [pg_M_3, pw_ob_of mM_sh]; exact congrArg some (h 3 (by decide))
theorem ma_213 {i : Nat} (hi : i < 12) : aw_aI (s, pw_lay (pw_σ b) (I, L, ρ)) (some (b + 213)) 1 (nI i) = some (I (b + 213) i) := by rw [pw_aI_1, pw_aa_of (pw_σ_at b 213)]; simp only [Option.bind_some]; rw [aw_ix_nI hi (by decide)]; rfl
theorem ms_213 {i : Nat} (hi : i < 12) (x : Int32) : aw_sI (s, pw_lay (pw_σ b) (I, L, ρ)) (some (b + 213)) 1 (nI i) x = some (s, pw_lay (pw_σ b) (uI I (b + 213) i x, L, ρ)) := by rw [pw_sI_1, pw_aa_of (pw_σ_at b 213)]; simp only [Option.bind_some]; rw [aw_ix_nI hi (by decide)]; rfl
theorem mg_4 (h : mP b ρ) : aw_gR (s, pw_lay (pw_σ b) (I, L, ρ)) (some (b + 211)) 7 4 = some (some (b + 214)) := by rw [pg_M_4, pw_ob_of mM_sh]; exact congrArg some (h 4 (by decide))
theorem ma_214 {i : Nat} (hi : i < 12) : aw_aI (s, pw_lay (pw_σ b) (I, L, ρ)) (some (b + 214)) 1 (nI i) = some (I (b + 214) i) := by rw [pw_aI_1, pw_aa_of (pw_σ_at b 214)]; simp only [Option.bind_some]; rw [aw_ix_nI hi (by decide)]; rfl
theorem ms_214 {i : Nat} (hi : i < 12) (x : Int32) : aw_sI (s, pw_lay (pw_σ b) (I, L, ρ)) (some (b + 214)) 1 (nI i) x = some (s, pw_lay (pw_σ b) (uI I (b + 214) i x, L, ρ)) := by rw [pw_sI_1, pw_aa_of (pw_σ_at b 214)]; simp only [Option.bind_some]; rw [aw_ix_nI hi (by decide)]; rfl
theorem mg_5 (h : mP b ρ) : aw_gR (s, pw_lay (pw_σ b) (I, L, ρ)) (some (b + 211)) 7 5 = some (some (b + 215)) := by rw [pg_M_5, pw_ob_of mM_sh]; exact congrArg some (h 5 (by decide))
theorem ma_215 {i : Nat} (hi : i < 1200) : aw_aI (s, pw_lay (pw_σ b) (I, L, ρ)) (some (b + 215)) 1 (nI i) = some (I (b + 215) i) := by rw [pw_aI_1, pw_aa_of (pw_σ_at b 215)]; simp only [Option.bind_some]; rw [aw_ix_nI hi (by decide)]; rfl
theorem ms_215 {i : Nat} (hi : i < 1200) (x : Int32) : aw_sI (s, pw_lay (pw_σ b) (I, L, ρ)) (some (b + 215)) 1 (nI i) x = some (s, pw_lay (pw_σ b) (uI I (b + 215) i x, L, ρ)) := by rw [pw_sI_1, pw_aa_of (pw_σ_at b 215)]; simp only [Option.bind_some]; rw [aw_ix_nI hi (by decide)]; rfl
theorem mg_6 (h : mP b ρ) : aw_gR (s, pw_lay (pw_σ b) (I, L, ρ)) (some (b + 211)) 7 6 = some (some (b + 216)) := by rw [pg_M_6, pw_ob_of mM_sh]; exact congrArg some (h 6 (by decide))
theorem ma_216 {i : Nat} (hi : i < 12) : aw_aI (s, pw_lay (pw_σ b) (I, L, ρ)) (some (b + 216)) 3 (nI i) = some (I (b + 216) i) := by rw [pw_aI_3, pw_aa_of (pw_σ_at b 216)]; simp only [Option.bind_some]; rw [aw_ix_nI hi (by decide)]; rfl
theorem ms_216 {i : Nat} (hi : i < 12) (x : Int32) : aw_sI (s, pw_lay (pw_σ b) (I, L, ρ)) (some (b + 216)) 3 (nI i) x = some (s, pw_lay (pw_σ b) (uI I (b + 216) i x, L, ρ)) := by rw [pw_sI_3, pw_aa_of (pw_σ_at b 216)]; simp only [Option.bind_some]; rw [aw_ix_nI hi (by decide)]; rfl
theorem mg_7 (h : mP b ρ) : aw_gR (s, pw_lay (pw_σ b) (I, L, ρ)) (some (b + 211)) 7 7 = some (some (b + 217)) := by rw [pg_M_7, pw_ob_of mM_sh]; exact congrArg some (h 7 (by decide))
theorem ma_217 {i : Nat} (hi : i < 12) : aw_aI (s, pw_lay (pw_σ b) (I, L, ρ)) (some (b + 217)) 1 (nI i) = some (I (b + 217) i) := by rw [pw_aI_1, pw_aa_of (pw_σ_at b 217)]; simp only [Option.bind_some]; rw [aw_ix_nI hi (by decide)]; rfl
theorem ms_217 {i : Nat} (hi : i < 12) (x : Int32) : aw_sI (s, pw_lay (pw_σ b) (I, L, ρ)) (some (b + 217)) 1 (nI i) x = some (s, pw_lay (pw_σ b) (uI I (b + 217) i x, L, ρ)) := by rw [pw_sI_1, pw_aa_of (pw_σ_at b 217)]; simp only [Option.bind_some]; rw [aw_ix_nI hi (by decide)]; rfl
theorem mg_8 (h : mP b ρ) : aw_gR (s, pw_lay (pw_σ b) (I, L, ρ)) (some (b + 211)) 7 8 = some (some (b + 218)) := by rw [pg_M_8, pw_ob_of mM_sh]; exact congrArg some (h 8 (by decide))
theorem ma_218 {i : Nat} (hi : i < 1440) : aw_aI (s, pw_lay (pw_σ b) (I, L, ρ)) (some (b + 218)) 1 (nI i) = some (I (b + 218) i) := by rw [pw_aI_1, pw_aa_of (pw_σ_at b 218)]; simp only [Option.bind_some]; rw [aw_ix_nI hi (by decide)]; rfl
theorem ms_218 {i : Nat} (hi : i < 1440) (x : Int32) : aw_sI (s, pw_lay (pw_σ b) (I, L, ρ)) (some (b + 218)) 1 (nI i) x = some (s, pw_lay (pw_σ b) (uI I (b + 218) i x, L, ρ)) := by rw [pw_sI_1, pw_aa_of (pw_σ_at b 218)]; simp only [Option.bind_some]; rw [aw_ix_nI hi (by decide)]; rfl
theorem mg_9 (h : mP b ρ) : aw_gR (s, pw_lay (pw_σ b) (I, L, ρ)) (some (b + 211)) 7 9 = some (some (b + 219)) := by rw [pg_M_9, pw_ob_of mM_sh]; exact congrArg some (h 9 (by decide))
theorem ma_219 {i : Nat} (hi : i < 12) : aw_aI (s, pw_lay (pw_σ b) (I, L, ρ)) (some (b + 219)) 1 (nI i) = some (I (b + 219) i) := by rw [pw_aI_1, pw_aa_of (pw_σ_at b 219)]; simp only [Option.bind_some]; rw [aw_ix_nI hi (by decide)]; rfl
theorem ms_219 {i : Nat} (hi : i < 12) (x : Int32) : aw_sI (s, pw_lay (pw_σ b) (I, L, ρ)) (some (b + 219)) 1 (nI i) x = some (s, pw_lay (pw_σ b) (uI I (b + 219) i x, L, ρ)) := by rw [pw_sI_1, pw_aa_of (pw_σ_at b 219)]; simp only [Option.bind_some]; rw [aw_ix_nI hi (by decide)]; rfl
theorem mg_10 (h : mP b ρ) : aw_gR (s, pw_lay (pw_σ b) (I, L, ρ)) (some (b + 211)) 7 10 = some (some (b + 220)) := by rw [pg_M_10, pw_ob_of mM_sh]; exact congrArg some (h 10 (by decide))
theorem ma_220 {i : Nat} (hi : i < 144) : aw_aI (s, pw_lay (pw_σ b) (I, L, ρ)) (some (b + 220)) 1 (nI i) = some (I (b + 220) i) := by rw [pw_aI_1, pw_aa_of (pw_σ_at b 220)]; simp only [Option.bind_some]; rw [aw_ix_nI hi (by decide)]; rfl
theorem ms_220 {i : Nat} (hi : i < 144) (x : Int32) : aw_sI (s, pw_lay (pw_σ b) (I, L, ρ)) (some (b + 220)) 1 (nI i) x = some (s, pw_lay (pw_σ b) (uI I (b + 220) i x, L, ρ)) := by rw [pw_sI_1, pw_aa_of (pw_σ_at b 220)]; simp only [Option.bind_some]; rw [aw_ix_nI hi (by decide)]; rfl
theorem mg_11 (h : mP b ρ) : aw_gR (s, pw_lay (pw_σ b) (I, L, ρ)) (some (b + 211)) 7 11 = some (some (b + 221)) := by rw [pg_M_11, pw_ob_of mM_sh]; exact congrArg some (h 11 (by decide))
theorem ma_221 {i : Nat} (hi : i < 144) : aw_aI (s, pw_lay (pw_σ b) (I, L, ρ)) (some (b + 221)) 1 (nI i) = some (I (b + 221) i) := by rw [pw_aI_1, pw_aa_of (pw_σ_at b 221)]; simp only [Option.bind_some]; rw [aw_ix_nI hi (by decide)]; rfl
theorem ms_221 {i : Nat} (hi : i < 144) (x : Int32) : aw_sI (s, pw_lay (pw_σ b) (I, L, ρ)) (some (b + 221)) 1 (nI i) x = some (s, pw_lay (pw_σ b) (uI I (b + 221) i x, L, ρ)) := by rw [pw_sI_1, pw_aa_of (pw_σ_at b 221)]; simp only [Option.bind_some]; rw [aw_ix_nI hi (by decide)]; rfl
theorem mg_12 (h : mP b ρ) : aw_gR (s, pw_lay (pw_σ b) (I, L, ρ)) (some (b + 211)) 7 12 = some (some (b + 222)) := by rw [pg_M_12, pw_ob_of mM_sh]; exact congrArg some (h 12 (by decide))
theorem ma_222 {i : Nat} (hi : i < 144) : aw_aI (s, pw_lay (pw_σ b) (I, L, ρ)) (some (b + 222)) 1 (nI i) = some (I (b + 222) i) := by rw [pw_aI_1, pw_aa_of (pw_σ_at b 222)]; simp only [Option.bind_some]; rw [aw_ix_nI hi (by decide)]; rfl
theorem ms_222 {i : Nat} (hi : i < 144) (x : Int32) : aw_sI (s, pw_lay (pw_σ b) (I, L, ρ)) (some (b + 222)) 1 (nI i) x = some (s, pw_lay (pw_σ b) (uI I (b + 222) i x, L, ρ)) := by rw [pw_sI_1, pw_aa_of (pw_σ_at b 222)]; simp only [Option.bind_some]; rw [aw_ix_nI hi (by decide)]; rfl
theorem mg_13 (h : mP b ρ) : aw_gR (s, pw_lay (pw_σ b) (I, L, ρ)) (some (b + 211)) 7 13 = some (some (b + 223)) := by rw [pg_M_13, pw_ob_of mM_sh]; exact congrArg some (h 13 (by decide))
theorem ma_223 {i : Nat} (hi : i < 144) : aw_aI (s, pw_lay (pw_σ b) (I, L, ρ)) (some (b + 223)) 1 (nI i) = some (I (b + 223) i) := by rw [pw_aI_1, pw_aa_of (pw_σ_at b 223)]; simp only [Option.bind_some]; rw [aw_ix_nI hi (by decide)]; rfl
theorem ms_223 {i : Nat} (hi : i < 144) (x : Int32) : aw_sI (s, pw_lay (pw_σ b) (I, L, ρ)) (some (b + 223)) 1 (nI i) x = some (s, pw_lay (pw_σ b) (uI I (b + 223) i x, L, ρ)) := by rw [pw_sI_1, pw_aa_of (pw_σ_at b 223)]; simp only [Option.bind_some]; rw [aw_ix_nI hi (by decide)]; rfl
theorem mg_14 (h : mP b ρ) : aw_gR (s, pw_lay (pw_σ b) (I, L, ρ)) (some (b + 211)) 7 14 = some (some (b + 224)) := by rw [pg_M_14, pw_ob_of mM_sh]; exact congrArg some (h 14 (by decide))
theorem ma_224 {i : Nat} (hi : i < 144) : aw_aI (s, pw_lay (pw_σ b) (I, L, ρ)) (some (b + 224)) 1 (nI i) = some (I (b + 224) i) := by rw [pw_aI_1, pw_aa_of (pw_σ_at b 224)]; simp only [Option.bind_some]; rw [aw_ix_nI hi (by decide)]; rfl
theorem ms_224 {i : Nat} (hi : i < 144) (x : Int32) : aw_sI (s, pw_lay (pw_σ b) (I, L, ρ)) (some (b + 224)) 1 (nI i) x = some (s, pw_lay (pw_σ b) (uI I (b + 224) i x, L, ρ)) := by rw [pw_sI_1, pw_aa_of (pw_σ_at b 224)]; simp only [Option.bind_some]; rw [aw_ix_nI hi (by decide)]; rfl
theorem mg_16 (h : mP b ρ) : aw_gR (s, pw_lay (pw_σ b) (I, L, ρ)) (some (b + 211)) 7 16 = some (some (b + 225)) := by rw [pg_M_16, pw_ob_of mM_sh]; exact congrArg some (h 16 (by decide))
theorem ma_225 {i : Nat} (hi : i < 80) : aw_aL (s, pw_lay (pw_σ b) (I, L, ρ)) (some (b + 225)) 2 (nI i) = some (L (b + 225) i) := by rw [pw_aL_2, pw_aa_of (pw_σ_at b 225)]; simp only [Option.bind_some]; rw [aw_ix_nI hi (by decide)]; rfl
theorem ms_225 {i : Nat} (hi : i < 80) (x : Int64) : aw_sL (s, pw_lay (pw_σ b) (I, L, ρ)) (some (b + 225)) 2 (nI i) x = some (s, pw_lay (pw_σ b) (I, uL L (b + 225) i x, ρ)) := by rw [pw_sL_2, pw_aa_of (pw_σ_at b 225)]; simp only [Option.bind_some]; rw [aw_ix_nI hi (by decide)]; rfl
theorem mg_17 (h : mP b ρ) : aw_gR (s, pw_lay (pw_σ b) (I, L, ρ)) (some (b + 211)) 7 17 = some (some (b + 226)) := by rw [pg_M_17, pw_ob_of mM_sh]; exact congrArg some (h 17 (by decide))
theorem ma_226 {i : Nat} (hi : i < 80) : aw_aI (s, pw_lay (pw_σ b) (I, L, ρ)) (some (b + 226)) 1 (nI i) = some (I (b + 226) i) := by rw [pw_aI_1, pw_aa_of (pw_σ_at b 226)]; simp only [Option.bind_some]; rw [aw_ix_nI hi (by decide)]; rfl
theorem ms_226 {i : Nat} (hi : i < 80) (x : Int32) : aw_sI (s, pw_lay (pw_σ b) (I, L, ρ)) (some (b + 226)) 1 (nI i) x = some (s, pw_lay (pw_σ b) (uI I (b + 226) i x, L, ρ)) := by rw [pw_sI_1, pw_aa_of (pw_σ_at b 226)]; simp only [Option.bind_some]; rw [aw_ix_nI hi (by decide)]; rfl
theorem mg_18 (h : mP b ρ) : aw_gR (s, pw_lay (pw_σ b) (I, L, ρ)) (some (b + 211)) 7 18 = some (some (b + 227)) := by rw [pg_M_18, pw_ob_of mM_sh]; exact congrArg some (h 18 (by decide))
theorem ma_227 {i : Nat} (hi : i < 80) : aw_aI (s, pw_lay (pw_σ b) (I, L, ρ)) (some (b + 227)) 1 (nI i) = some (I (b + 227) i) := by rw [pw_aI_1, pw_aa_of (pw_σ_at b 227)]; simp only [Option.bind_some]; rw [aw_ix_nI hi (by decide)]; rfl
theorem ms_227 {i : Nat} (hi : i < 80) (x : Int32) : aw_sI (s, pw_lay (pw_σ b) (I, L, ρ)) (some (b + 227)) 1 (nI i) x = some (s, pw_lay (pw_σ b) (uI I (b + 227) i x, L, ρ)) := by rw [pw_sI_1, pw_aa_of (pw_σ_at b 227)]; simp only [Option.bind_some]; rw [aw_ix_nI hi (by decide)]; rfl
theorem mg_19 (h : mP b ρ) : aw_gR (s, pw_lay (pw_σ b) (I, L, ρ)) (some (b + 211)) 7 19 = some (some (b + 228)) := by rw [pg_M_19, pw_ob_of mM_sh]; exact congrArg some (h 19 (by decide))
theorem ma_228 {i : Nat} (hi : i < 80) : aw_aI (s, pw_lay (pw_σ b) (I, L, ρ)) (some (b + 228)) 1 (nI i) = some (I (b + 228) i) := by rw [pw_aI_1, pw_aa_of (pw_σ_at b 228)]; simp only [Option.bind_some]; rw [aw_ix_nI hi (by decide)]; rfl
theorem ms_228 {i : Nat} (hi : i < 80) (x : Int32) : aw_sI (s, pw_lay (pw_σ b) (I, L, ρ)) (some (b + 228)) 1 (nI i) x = some (s, pw_lay (pw_σ b) (uI I (b + 228) i x, L, ρ)) := by rw [pw_sI_1, pw_aa_of (pw_σ_at b 228)]; simp only [Option.bind_some]; rw [aw_ix_nI hi (by decide)]; rfl
end
theorem nI_12 (i j : Nat) : (12 : Int32) * nI i + nI j = nI (12 * i + j) := by rw [show (12 : Int32) = nI 12 from rfl, show nI 12 * nI i = nI (12 * i) from (Int32.ofNat_mul 12 i).symm, nI_add]
theorem nI_100 (i j : Nat) : (100 : Int32) * nI i + nI j = nI (100 * i + j) := by rw [show (100 : Int32) = nI 100 from rfl, show nI 100 * nI i = nI (100 * i) from (Int32.ofNat_mul 100 i).symm, nI_add]
theorem nI_120 (i : Nat) : (120 : Int32) * nI i = nI (120 * i) := by rw [show (120 : Int32) = nI 120 from rfl]; exact (Int32.ofNat_mul 120 i).symm
/-- the cells of the row i -/
def mC (b i a k : Nat) : Prop := ((a = b + 212 ∨ a = b + 213 ∨ a = b + 214 ∨ a = b + 216 ∨ a = b + 217 ∨ a = b + 219) ∧ k = i) ∨ (a = b + 215 ∧ 100 * i ≤ k ∧ k < 100 * i + 100) ∨ (a = b + 218 ∧ 120 * i ≤ k ∧ k < 120 * i + 120) ∨ ((a = b + 220 ∨ a = b + 221 ∨ a = b + 222 ∨ a = b + 223 ∨ a = b + 224) ∧ 12 * i ≤ k ∧ k < 12 * i + 12)
/-- only cells with Q have changed -/
def mfr (I I' : mN) (Q : Nat → Nat → Prop) : Prop := ∀ a k, ¬ Q a k → I' a k = I a k
theorem mfr.rfl {I : mN} {Q : Nat → Nat → Prop} : mfr I I Q := fun _ _ _ => Eq.refl _
theorem mfr.trans {I I' I'' : mN} {Q : Nat → Nat → Prop} (h : mfr I I' Q) (g : mfr I' I'' Q) : mfr I I'' Q := fun a k hq => (g a k hq).trans (h a k hq)
theorem mfr.mono {I I' : mN} {Q Q' : Nat → Nat → Prop} (h : mfr I I' Q) (hq : ∀ a k, Q a k → Q' a k) : mfr I I' Q' := fun a k hn => h a k (fun hc => hn (hq a k hc))
theorem mfr.uI {I : mN} {Q : Nat → Nat → Prop} {a k : Nat} {x : Int32} (h : Q a k) : mfr I (uI I a k x) Q := fun a' k' hn => if_neg (fun hc => hn (by rw [hc.1, hc.2]; exact h))
/-- the row i holds the file t, but for its number -/
def mW (I : mN) (b i : Nat) (t : qf) : Prop := I (b + 213) i = nI t.2.1.length ∧ I (b + 214) i = nI t.2.2.1 ∧ (∀ j, j < t.2.1.length → I (b + 215) (100 * i + j) = nI (t.2.1.getD j 0)) ∧ (I (b + 216) i = if t.2.2.2.1 = [] then 0 else 1) ∧ (t.2.2.2.1 ≠ [] → I (b + 217) i = nI t.2.2.2.1.length) ∧ (∀ j, j < t.2.2.2.1.length → I (b + 218) (120 * i + j) = nI (t.2.2.2.1.getD j 0)) ∧ I (b + 219) i = nI t.2.2.2.2.length ∧ ∀ j r, t.2.2.2.2[j]? = some r → I (b + 220) (12 * i + j) = nI r.1 ∧ I (b + 221) (12 * i + j) = nI r.2.1 ∧ I (b + 222) (12 * i + j) = nI r.2.2.2
/-- sizes -/
def mZ (t : qf) : Prop := t.2.1.length ≤ 100 ∧ t.2.2.2.1.length ≤ 104 ∧ t.2.2.2.2.length ≤ 11
theorem mW.fr {I I' : mN} {b i : Nat} {t : qf} {Q : Nat → Nat → Prop} (h : mW I b i t) (z : mZ t) (g : mfr I I' Q) (hQ : ∀ a k, mC b i a k → ¬ Q a k) : mW I' b i t := by
  obtain ⟨h1, h2, h3, h4, h5, h6, h7, h8⟩ := h
  obtain ⟨z1, z2, z3⟩ := z
  refine ⟨?_, ?_, fun j hj => ?_, ?_, fun hn => ?_, fun j hj => ?_, ?_, fun j r hr => ?_⟩
  · rw [g _ _ (hQ _ _ (Or.inl ⟨by omega, rfl⟩))]; exact h1
  · rw [g _ _ (hQ _ _ (Or.inl ⟨by omega, rfl⟩))]; exact h2
  · rw [g _ _ (hQ _ _ (Or.inr (Or.inl ⟨rfl, by omega, by omega⟩)))]; exact h3 j hj
  · rw [g _ _ (hQ _ _ (Or.inl ⟨by omega, rfl⟩))]; exact h4
  · rw [g _ _ (hQ _ _ (Or.inl ⟨by omega, rfl⟩))]; exact h5 hn
  · rw [g _ _ (hQ _ _ (Or.inr (Or.inr (Or.inl ⟨rfl, by omega, by omega⟩))))]; exact h6 j hj
  · rw [g _ _ (hQ _ _ (Or.inl ⟨by omega, rfl⟩))]; exact h7
  · have hj : j < t.2.2.2.2.length := (List.getElem?_eq_some_iff.mp hr).1
    have e : ∀ a, (a = b + 220 ∨ a = b + 221 ∨ a = b + 222 ∨ a = b + 223 ∨ a = b + 224) → I' a (12 * i + j) = I a (12 * i + j) := fun a ha => g _ _ (hQ _ _ (Or.inr (Or.inr (Or.inr ⟨ha, by omega, by omega⟩))))
    rw [e _ (by omega), e _ (by omega), e _ (by omega)]
    exact h8 j r hr
theorem mC_ne {b i j a k : Nat} (h : i ≠ j) (h1 : mC b i a k) : ¬ mC b j a k := fun h2 => by
  unfold mC at h1 h2
  omega
theorem mW.off {I I' : mN} {b i j : Nat} {t : qf} (h : mW I b i t) (z : mZ t) (g : mfr I I' (mC b j)) (hn : i ≠ j) : mW I' b i t := h.fr z g (fun a k hc => mC_ne hn hc)
section
variable {I : mN} {L : mL} {ρ : mQ} {s : Option Nat} {b : Nat} {t : qf} {i : Nat}
/-- a record is noted in the row i -/
theorem M_note (hP : mP b ρ) (h : mW I b i t) (hi : i < 12) (hc : t.2.2.2.2.length < 12) (p k x v : Nat) :
    ∃ I', f_M_note (s, pw_lay (pw_σ b) (I, L, ρ)) (some (b + 211)) (nI i) (nI p) (nI k) (nI v) = some (s, pw_lay (pw_σ b) (I', L, ρ)) ∧ mW I' b i (t.1, t.2.1, t.2.2.1, t.2.2.2.1, t.2.2.2.2 ++ [(p, k, x, v)]) ∧ mfr I I' (fun a c => (a = b + 219 ∧ c = i) ∨ ((a = b + 220 ∨ a = b + 221 ∨ a = b + 222) ∧ c = 12 * i + t.2.2.2.2.length)) := by
  have h' := h
  obtain ⟨h1, h2, h3, h4, h5, h6, h7, h8⟩ := h'
  refine ⟨uI (uI (uI (uI I (b + 220) (12 * i + t.2.2.2.2.length) (nI p)) (b + 221) (12 * i + t.2.2.2.2.length) (nI k)) (b + 222) (12 * i + t.2.2.2.2.length) (nI v)) (b + 219) i (nI (t.2.2.2.2.length + 1)), ?_, ?_, (((mfr.uI (by omega)).trans (mfr.uI (by omega))).trans (mfr.uI (by omega))).trans (mfr.uI (by omega))⟩
  · unfold f_M_note
    rw [mg_9 hP, Option.bind_some, ma_219 hi, Option.bind_some, h7, nI_12, mg_10 hP, Option.bind_some, ms_220 (by omega), Option.bind_some, mg_11 hP, Option.bind_some, ms_221 (by omega), Option.bind_some, mg_12 hP, Option.bind_some, ms_222 (by omega), Option.bind_some, mg_9 hP, Option.bind_some, ma_219 hi, Option.bind_some]
    rw [uI_ne (by omega), uI_ne (by omega), uI_ne (by omega), h7, nI_1, ms_219 hi]
    rfl
  · refine ⟨?_, ?_, fun j hj => ?_, ?_, fun hn => ?_, fun j hj => ?_, ?_, fun j r hr => ?_⟩
    · rw [uI_ne (by omega), uI_ne (by omega), uI_ne (by omega), uI_ne (by omega)]; exact h1
    · rw [uI_ne (by omega), uI_ne (by omega), uI_ne (by omega), uI_ne (by omega)]; exact h2
    · rw [uI_ne (by omega), uI_ne (by omega), uI_ne (by omega), uI_ne (by omega)]; exact h3 j hj
    · rw [uI_ne (by omega), uI_ne (by omega), uI_ne (by omega), uI_ne (by omega)]; exact h4
    · rw [uI_ne (by omega), uI_ne (by omega), uI_ne (by omega), uI_ne (by omega)]; exact h5 hn
    · rw [uI_ne (by omega), uI_ne (by omega), uI_ne (by omega), uI_ne (by omega)]; exact h6 j hj
    · rw [uI_at, List.length_append, List.length_singleton]
    · by_cases hj : j < t.2.2.2.2.length
      · rw [List.getElem?_append_left hj] at hr
        obtain ⟨g1, g2, g3⟩ := h8 j r hr
        refine ⟨?_, ?_, ?_⟩
        · rw [uI_ne (by omega), uI_ne (by omega), uI_ne (by omega), uI_ne (by omega)]; exact g1
        · rw [uI_ne (by omega), uI_ne (by omega), uI_ne (by omega), uI_ne (by omega)]; exact g2
        · rw [uI_ne (by omega), uI_ne (by omega), uI_ne (by omega), uI_ne (by omega)]; exact g3
      · have hl := (List.getElem?_eq_some_iff.mp hr).1
        rw [List.length_append, List.length_singleton] at hl
        have hj2 : j = t.2.2.2.2.length := by omega
        subst hj2
        rw [List.getElem?_append_right (Nat.le_refl _), Nat.sub_self] at hr
        cases hr
        refine ⟨?_, ?_, ?_⟩
        · rw [uI_ne (by omega), uI_ne (by omega), uI_ne (by omega), uI_at]
        · rw [uI_ne (by omega), uI_ne (by omega), uI_at]
        · rw [uI_ne (by omega), uI_at]
/-- a byte is put to the row i -/
theorem M_putByte (hP : mP b ρ) (h : mW I b i t) (hi : i < 12) (hl : t.2.1.length < 100) (x : Nat) :
    ∃ I', f_M_putByte (s, pw_lay (pw_σ b) (I, L, ρ)) (some (b + 211)) (nI i) (nI x) = some (s, pw_lay (pw_σ b) (I', L, ρ)) ∧ mW I' b i (t.1, t.2.1 ++ [x], t.2.2) ∧ mfr I I' (fun a c => (a = b + 213 ∧ c = i) ∨ (a = b + 215 ∧ 100 * i ≤ c ∧ c < 100 * i + 100)) := by
  have h' := h
  obtain ⟨h1, h2, h3, h4, h5, h6, h7, h8⟩ := h'
  refine ⟨uI (uI I (b + 215) (100 * i + t.2.1.length) (nI x)) (b + 213) i (nI (t.2.1.length + 1)), ?_, ?_, (mfr.uI (by omega)).trans (mfr.uI (by omega))⟩
  · unfold f_M_putByte
    rw [mg_5 hP, Option.bind_some, mg_3 hP, Option.bind_some, ma_213 hi, Option.bind_some, h1, nI_100, ms_215 (by omega), Option.bind_some, mg_3 hP, Option.bind_some, ma_213 hi, Option.bind_some, uI_ne (by omega), h1, nI_1, ms_213 hi]
    rfl
  · refine ⟨?_, ?_, fun j hj => ?_, ?_, fun hn => ?_, fun j hj => ?_, ?_, fun j r hr => ?_⟩
    · rw [uI_at, List.length_append, List.length_singleton]
    · rw [uI_ne (by omega), uI_ne (by omega)]; exact h2
    · dsimp only at hj
      rw [List.length_append, List.length_singleton] at hj
      rw [uI_ne (by omega)]
      by_cases hj2 : j = t.2.1.length
      · rw [hj2, uI_at]
        congr 1
        have := pn_getD_app t.2.1 [x] 0
        rw [Nat.add_zero] at this
        rw [this]
        rfl
      · rw [uI_ne (by omega), h3 j (by omega)]
        congr 1
        unfold List.getD
        rw [List.getElem?_append_left (by omega)]
    · rw [uI_ne (by omega), uI_ne (by omega)]; exact h4
    · rw [uI_ne (by omega), uI_ne (by omega)]; exact h5 hn
    · rw [uI_ne (by omega), uI_ne (by omega)]; exact h6 j hj
    · rw [uI_ne (by omega), uI_ne (by omega)]; exact h7
    · rw [uI_ne (by omega), uI_ne (by omega), uI_ne (by omega), uI_ne (by omega), uI_ne (by omega), uI_ne (by omega)]; exact h8 j r hr
end

