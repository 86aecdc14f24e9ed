/-! ===== the directory, on ===== -/
section
variable {σ : Nat → Option pw_Sh} {μ : pw_Mem} {s : Option Nat} {d : Nat} {Ds : List Nat}
theorem pd_count (h : pw_D σ μ d Ds) : f_D_count (s, pw_lay σ μ) (some d) = some (nI Ds.length) := by
  unfold f_D_count
  rw [pg_D_1, pw_ob_of h.1]
  simp only [Option.map_some, Option.bind_some, h.2.2.2.1]
theorem pd_at (h : pw_D σ μ d Ds) {i : Nat} (hi : i < 2 ^ 31) : f_D_at (s, pw_lay σ μ) (some d) (nI i) = some Ds[i]? := by
  obtain ⟨h1, h2, h3, h4, h5, h6, h7⟩ := h
  unfold f_D_at
  rw [if_neg (nI_pos hi), pg_D_1, pw_ob_of h1, pg_D_0, pw_ob_of h1]
  simp only [Option.map_some, Option.bind_some, h4, h3]
  by_cases hn : i < Ds.length
  · rw [if_neg (nI_ge hn (by omega)), pw_aR_4, pw_aa_of h2]
    simp only [Option.bind_some]
    rw [aw_ix_nI (by omega) (by decide)]
    simp only [Option.map_some, Option.bind_some, h6 i hn]
  · rw [if_pos (nI_le (by omega) hi), List.getElem?_eq_none (by omega)]
    rfl
end
