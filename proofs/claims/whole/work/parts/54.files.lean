/-! ===== the reference's arrays; a file's small answers ===== -/
theorem pw_ptrsM (base : Nat) : pr_0 base (base + 211) 2 = some (base + 211 + 1) ∧ pr_0 base (base + 211) 3 = some (base + 211 + 2) ∧ pr_0 base (base + 211) 4 = some (base + 211 + 3) ∧ pr_0 base (base + 211) 5 = some (base + 211 + 4) ∧ pr_0 base (base + 211) 6 = some (base + 211 + 5) ∧ pr_0 base (base + 211) 7 = some (base + 211 + 6) ∧ pr_0 base (base + 211) 8 = some (base + 211 + 7) ∧ pr_0 base (base + 211) 9 = some (base + 211 + 8) ∧ pr_0 base (base + 211) 10 = some (base + 211 + 9) ∧ pr_0 base (base + 211) 11 = some (base + 211 + 10) ∧ pr_0 base (base + 211) 12 = some (base + 211 + 11) ∧ pr_0 base (base + 211) 13 = some (base + 211 + 12) ∧ pr_0 base (base + 211) 14 = some (base + 211 + 13) ∧ pr_0 base (base + 211) 16 = some (base + 211 + 14) ∧ pr_0 base (base + 211) 17 = some (base + 211 + 15) ∧ pr_0 base (base + 211) 18 = some (base + 211 + 16) ∧ pr_0 base (base + 211) 19 = some (base + 211 + 17) := by
  unfold pr_0 pr_M
  refine ⟨?_, ?_, ?_, ?_, ?_, ?_, ?_, ?_, ?_, ?_, ?_, ?_, ?_, ?_, ?_, ?_, ?_⟩
  · rw [pr_ne (by omega), pr_ne (by omega), pr_ne (by omega), pr_ne (by omega), pr_ne (by omega), pr_ne (by omega), pr_ne (by omega), pr_ne (by omega), pr_ne (by omega), pr_ne (by omega), pr_ne (by omega), pr_ne (by omega), pr_ne (by omega), pr_ne (by omega), pr_ne (by omega), pr_ne (by omega), pr_at]
  · rw [pr_ne (by omega), pr_ne (by omega), pr_ne (by omega), pr_ne (by omega), pr_ne (by omega), pr_ne (by omega), pr_ne (by omega), pr_ne (by omega), pr_ne (by omega), pr_ne (by omega), pr_ne (by omega), pr_ne (by omega), pr_ne (by omega), pr_ne (by omega), pr_ne (by omega), pr_at]
  · rw [pr_ne (by omega), pr_ne (by omega), pr_ne (by omega), pr_ne (by omega), pr_ne (by omega), pr_ne (by omega), pr_ne (by omega), pr_ne (by omega), pr_ne (by omega), pr_ne (by omega), pr_ne (by omega), pr_ne (by omega), pr_ne (by omega), pr_ne (by omega), pr_at]
  · rw [pr_ne (by omega), pr_ne (by omega), pr_ne (by omega), pr_ne (by omega), pr_ne (by omega), pr_ne (by omega), pr_ne (by omega), pr_ne (by omega), pr_ne (by omega), pr_ne (by omega), pr_ne (by omega), pr_ne (by omega), pr_ne (by omega), pr_at]
  · rw [pr_ne (by omega), pr_ne (by omega), pr_ne (by omega), pr_ne (by omega), pr_ne (by omega), pr_ne (by omega), pr_ne (by omega), pr_ne (by omega), pr_ne (by omega), pr_ne (by omega), pr_ne (by omega), pr_ne (by omega), pr_at]
  · rw [pr_ne (by omega), pr_ne (by omega), pr_ne (by omega), pr_ne (by omega), pr_ne (by omega), pr_ne (by omega), pr_ne (by omega), pr_ne (by omega), pr_ne (by omega), pr_ne (by omega), pr_ne (by omega), pr_at]
  · rw [pr_ne (by omega), pr_ne (by omega), pr_ne (by omega), pr_ne (by omega), pr_ne (by omega), pr_ne (by omega), pr_ne (by omega), pr_ne (by omega), pr_ne (by omega), pr_ne (by omega), pr_at]
  · rw [pr_ne (by omega), pr_ne (by omega), pr_ne (by omega), pr_ne (by omega), pr_ne (by omega), pr_ne (by omega), pr_ne (by omega), pr_ne (by omega), pr_ne (by omega), pr_at]
  · rw [pr_ne (by omega), pr_ne (by omega), pr_ne (by omega), pr_ne (by omega), pr_ne (by omega), pr_ne (by omega), pr_ne (by omega), pr_ne (by omega), pr_at]
  · rw [pr_ne (by omega), pr_ne (by omega), pr_ne (by omega), pr_ne (by omega), pr_ne (by omega), pr_ne (by omega), pr_ne (by omega), pr_at]
  · rw [pr_ne (by omega), pr_ne (by omega), pr_ne (by omega), pr_ne (by omega), pr_ne (by omega), pr_ne (by omega), pr_at]
  · rw [pr_ne (by omega), pr_ne (by omega), pr_ne (by omega), pr_ne (by omega), pr_ne (by omega), pr_at]
  · rw [pr_ne (by omega), pr_ne (by omega), pr_ne (by omega), pr_ne (by omega), pr_at]
  · rw [pr_ne (by omega), pr_ne (by omega), pr_ne (by omega), pr_at]
  · rw [pr_ne (by omega), pr_ne (by omega), pr_at]
  · rw [pr_ne (by omega), pr_at]
  · rw [pr_at]
section
variable {σ : Nat → Option pw_Sh} {μ : pw_Mem} {s : Option Nat} {f : Nat}
theorem pf_bytes (h : pw_blk σ f) (hp : pw_Fp μ.2.2 f) : f_F_bytes (s, pw_lay σ μ) (some f) = some (some (f + 1)) := by
  unfold f_F_bytes
  rw [pg_F_0, pw_ob_of h.1]
  simp only [Option.map_some, Option.bind_some, hp.1]
theorem pf_hint (h : pw_blk σ f) (hp : pw_Fp μ.2.2 f) : f_F_hint (s, pw_lay σ μ) (some f) = some (some (f + 3)) := by
  unfold f_F_hint
  rw [pg_F_1, pw_ob_of h.1]
  simp only [Option.map_some, Option.bind_some, hp.2.1]
theorem pf_number (h : pw_blk σ f) : f_F_number (s, pw_lay σ μ) (some f) = some (μ.1 f 4) := by
  unfold f_F_number
  rw [pg_F_4, pw_ob_of h.1]
  rfl
theorem pf_synced (h : pw_blk σ f) : f_F_synced (s, pw_lay σ μ) (some f) = some (μ.1 f 5) := by
  unfold f_F_synced
  rw [pg_F_5, pw_ob_of h.1]
  rfl
theorem pf_count (h : pw_blk σ f) : f_F_recordCount (s, pw_lay σ μ) (some f) = some (μ.1 f 3) := by
  unfold f_F_recordCount
  rw [pg_F_3, pw_ob_of h.1]
  rfl
theorem pf_record (h : pw_blk σ f) (hp : pw_Fp μ.2.2 f) {c i : Nat} (hc : μ.1 f 3 = nI c) (hc2 : c ≤ 11) (hi : i < 2 ^ 31) : f_F_record (s, pw_lay σ μ) (some f) (nI i) = some (if i < c then some (f + 6 + i) else none) := by
  unfold f_F_record
  rw [if_neg (nI_pos hi), pg_F_3, pw_ob_of h.1, pg_F_2, pw_ob_of h.1]
  simp only [Option.map_some, Option.bind_some, hc, hp.2.2.1]
  by_cases hn : i < c
  · rw [if_neg (nI_ge hn (by omega)), pw_aR_4, pw_aa_of h.2.2.2.2.2.1]
    simp only [Option.bind_some]
    rw [aw_ix_nI (by omega) (by omega), if_pos hn]
    simp only [Option.map_some, Option.bind_some, hp.2.2.2.2.2 i (by omega)]
  · rw [if_pos (nI_le (by omega) hi), if_neg hn]
    rfl
theorem pf_syncAll (h : pw_blk σ f) (hp : pw_Fp μ.2.2 f) {n : Nat} (hO : pw_O σ μ (f + 1) 100 n) : f_F_syncAll (s, pw_lay σ μ) (some f) = some (s, pw_lay σ (pw_sI μ f 5 (nI n))) := by
  unfold f_F_syncAll
  rw [pg_F_0, pw_ob_of h.1]
  simp only [Option.map_some, Option.bind_some, hp.1]
  rw [pw_obj, pw_ob_of h.2.1, po_size hO]
  simp only [Option.map_some, Option.bind_some]
  rw [pp_F_5, pw_ob_of h.1]
  rfl
/-- a record's key and length -/
theorem pf_recSize {r k x v : Nat} (h : σ r = some (.inr 4)) (hk : k < 8) (hr : μ.2.1 r 2 = lN (pn_rank k x)) (hv : μ.1 r 3 = nI v) (hv2 : v < 2 ^ 31) : f_R_keySize (s, pw_lay σ μ) (some r) = some (nI k) ∧ f_R_size (s, pw_lay σ μ) (some r) = some (nI (pn_len k v)) := by
  have e1 : f_R_keySize (s, pw_lay σ μ) (some r) = some (nI k) := by
    unfold f_R_keySize
    rw [pg_R_2, pw_ob_of h]
    simp only [Option.map_some, Option.bind_some, hr]
    rw [pk_size hk]
    rfl
  refine ⟨e1, ?_⟩
  unfold f_R_size
  rw [pw_obj, pw_ob_of h, e1, pg_R_3, pw_ob_of h]
  simp only [Option.map_some, Option.bind_some, hv]
  rw [pk_recordBytes hv2]
  rfl
end
