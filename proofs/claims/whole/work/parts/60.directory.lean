/-! ===== the directory: a list of records ===== -/
def pw_D (σ : Nat → Option pw_Sh) (μ : pw_Mem) (d : Nat) (Ds : List Nat) : Prop := σ d = some (.inr 1) ∧ σ (d + 1) = some (.inl (4, 66)) ∧ μ.2.2 d 0 = some (d + 1) ∧ μ.1 d 1 = nI Ds.length ∧ Ds.length ≤ 66 ∧ (∀ i, i < Ds.length → μ.2.2 (d + 1) i = Ds[i]?) ∧ ∀ r ∈ Ds, σ r = some (.inr 4)
/-- how many records from the first on have a smaller rank -/
def pd_ff (μ : pw_Mem) (rk : Int64) : List Nat → Nat
  | [] => 0
  | r :: t => if μ.2.1 r 2 < rk then pd_ff μ rk t + 1 else 0
theorem pd_ff_le (μ : pw_Mem) (rk : Int64) : ∀ Ds, pd_ff μ rk Ds ≤ Ds.length
  | [] => Nat.le_refl _
  | r :: t => by
    unfold pd_ff
    have := pd_ff_le μ rk t
    rw [List.length_cons]
    split <;> omega
theorem pd_ff_lt (μ : pw_Mem) (rk : Int64) : ∀ (Ds : List Nat) (j : Nat) (r : Nat), j < pd_ff μ rk Ds → Ds[j]? = some r → μ.2.1 r 2 < rk
  | q :: t, j, r, hj, hr => by
    unfold pd_ff at hj
    by_cases hq : μ.2.1 q 2 < rk
    · rw [if_pos hq] at hj
      cases j with
      | zero => cases hr; exact hq
      | succ i => exact pd_ff_lt μ rk t i r (by omega) hr
    · rw [if_neg hq] at hj
      omega
theorem pd_ff_at (μ : pw_Mem) (rk : Int64) : ∀ (Ds : List Nat) (r : Nat), Ds[pd_ff μ rk Ds]? = some r → ¬ μ.2.1 r 2 < rk
  | [], r, hr => by cases hr
  | q :: t, r, hr => by
    unfold pd_ff at hr
    by_cases hq : μ.2.1 q 2 < rk
    · rw [if_pos hq] at hr
      exact pd_ff_at μ rk t r hr
    · rw [if_neg hq] at hr
      cases hr
      exact hq
section
variable {σ : Nat → Option pw_Sh} {μ : pw_Mem} {s : Option Nat} {d : Nat} {Ds : List Nat}
theorem pd_firstFrom (h : pw_D σ μ d Ds) (rk : Int64) : f_D_firstFrom (s, pw_lay σ μ) (some d) rk = some (nI (pd_ff μ rk Ds)) := by
  obtain ⟨h1, h2, h3, h4, h5, h6, h7⟩ := h
  have hle := pd_ff_le μ rk Ds
  have get : ∀ j, j < Ds.length → ∃ r, Ds[j]? = some r ∧ aw_aR (s, pw_lay σ μ) (some (d + 1)) 4 (nI j) = some (some r) ∧ aw_gL (s, pw_lay σ μ) (some r) 4 2 = some (μ.2.1 r 2) := by
    intro j hj
    refine ⟨Ds[j], List.getElem?_eq_getElem hj, ?_, ?_⟩
    · rw [pw_aR_4, pw_aa_of h2]
      simp only [Option.bind_some]
      rw [aw_ix_nI (by omega) (by decide)]
      show some (μ.2.2 (d + 1) j) = _
      rw [h6 j hj, List.getElem?_eq_getElem hj]
    · rw [pg_R_2, pw_ob_of (h7 _ (List.getElem_mem hj))]
      rfl
  unfold f_D_firstFrom
  refine (pw_loop (nI (pd_ff μ rk Ds)) (pd_ff μ rk Ds) (fun j => nI j) rfl (fun j hj => ?_) ?_).trans rfl
  · obtain ⟨r, g1, g2, g3⟩ := get j (by omega)
    try dsimp only
    rw [pg_D_1, pw_ob_of h1]
    simp only [Option.map_some, Option.bind_some, h4]
    rw [if_neg (nI_ge (by omega) (by omega)), pg_D_0, pw_ob_of h1]
    simp only [Option.map_some, Option.bind_some, h3]
    rw [g2, Option.bind_some, g3, Option.bind_some, if_neg (fun hc => absurd (pd_ff_lt μ rk Ds j r hj g1) (Int64.not_lt.mpr ((lg_cmp_ge _ _).mp hc))), nI_1]
  · try dsimp only
    rw [pg_D_1, pw_ob_of h1]
    simp only [Option.map_some, Option.bind_some, h4]
    by_cases he : pd_ff μ rk Ds < Ds.length
    · obtain ⟨r, g1, g2, g3⟩ := get _ he
      rw [if_neg (nI_ge he (by omega)), pg_D_0, pw_ob_of h1]
      simp only [Option.map_some, Option.bind_some, h3]
      rw [g2, Option.bind_some, g3, Option.bind_some, if_pos ((lg_cmp_ge _ _).mpr (Int64.not_lt.mp (pd_ff_at μ rk Ds r g1)))]
    · rw [if_pos (nI_le (by omega) (by omega))]
end
