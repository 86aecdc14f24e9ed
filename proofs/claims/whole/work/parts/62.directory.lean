/-! ===== the directory finds a record ===== -/
/-- the record of a rank -/
def pd_fi (μ : pw_Mem) (rk : Int64) (Ds : List Nat) : Option Nat := (Ds[pd_ff μ rk Ds]?).bind fun r => if μ.2.1 r 2 = rk then some r else none
section
variable {σ : Nat → Option pw_Sh} {μ : pw_Mem} {s : Option Nat} {d : Nat} {Ds : List Nat}
theorem pd_find (h : pw_D σ μ d Ds) (rk : Int64) : f_D_find (s, pw_lay σ μ) (some d) rk = some (pd_fi μ rk Ds) := by
  have hle := pd_ff_le μ rk Ds
  have h66 := h.2.2.2.2.1
  unfold f_D_find pd_fi
  rw [pw_obj, pw_ob_of h.1]
  simp only [Option.map_some, Option.bind_some]
  rw [pd_firstFrom h, Option.bind_some, pd_at h (by omega)]
  simp only [Option.bind_some]
  cases hg : Ds[pd_ff μ rk Ds]? with
  | none =>
    rw [if_pos rfl]
    rfl
  | some r =>
    have hr : σ r = some (.inr 4) := h.2.2.2.2.2.2 r (List.mem_of_getElem? hg)
    rw [if_neg (fun hc => nomatch hc), pg_R_2, pw_ob_of hr]
    simp only [Option.map_some, Option.bind_some]
    by_cases he : μ.2.1 r 2 = rk
    · rw [if_pos ((lg_cmp_eq _ _).mpr he), if_pos he]
      rfl
    · rw [if_neg (fun hc => he ((lg_cmp_eq _ _).mp hc)), if_neg he]
      rfl
theorem pd_has (h : pw_D σ μ d Ds) {r : Nat} (hr : σ r = some (.inr 4)) : f_D_has (s, pw_lay σ μ) (some d) (some r) = some (if pd_fi μ (μ.2.1 r 2) Ds = some r then 1 else 0) := by
  unfold f_D_has
  rw [pg_R_2, pw_ob_of hr]
  simp only [Option.map_some, Option.bind_some]
  rw [pw_obj, pw_ob_of h.1]
  simp only [Option.map_some, Option.bind_some]
  rw [pd_find h, Option.bind_some]
  by_cases he : pd_fi μ (μ.2.1 r 2) Ds = some r
  · rw [if_pos he, if_pos he, Option.bind_some, aw_zz_1]
    rfl
  · rw [if_neg he, if_neg he, Option.bind_some, aw_zz_0]
    rfl
end
