/-! ===== the start's meaning ===== -/
theorem pw_lay_none (base : Nat) (μ : pw_Mem) : pw_lay (pw_up (pw_σ base) base) μ = fun _ => none := by
  funext a
  have h : pw_up (pw_σ base) base a = none := by
    unfold pw_up
    by_cases ha : a < base
    · rw [if_pos ha]
      exact if_pos ha
    · rw [if_neg ha]
  unfold pw_lay
  rw [h]
theorem pw_up_all (base : Nat) : pw_up (pw_σ base) (base + 230) = pw_σ base := by
  funext a
  unfold pw_up
  by_cases ha : a < base + 230
  · rw [if_pos ha]
  · rw [if_neg ha]
    obtain ⟨d, rfl⟩ : ∃ d, a = base + (230 + d) := ⟨a - base - 230, by omega⟩
    rw [pw_σ_at]
    unfold pw_τ
    rw [if_neg (by omega), if_neg (by omega), if_neg (by omega), if_neg (by omega), if_neg (by omega), if_neg (by omega), if_neg (by omega), if_neg (by omega), if_neg (by omega), if_neg (by omega), if_neg (by omega), if_neg (by omega)]
theorem pr_A_up (base : Nat) : ∀ b, base + 211 ≤ b → ∀ k, pr_A base b k = none := by
  intro b hb k
  unfold pr_A
  rw [pr_off (by omega), pr_files_off (by omega) 6 (by omega), pr_off (by omega), pr_off (by omega), pr_off (by omega), pr_off (by omega), pr_off (by omega), pr_files_off (by omega) 6 (by omega), pr_off (by omega)]
theorem pr_M_off {ρ : Nat → Nat → Option Nat} {m b : Nat} (h : b ≠ m) : pr_M ρ m b = ρ b := by
  unfold pr_M
  rw [pr_off h, pr_off h, pr_off h, pr_off h, pr_off h, pr_off h, pr_off h, pr_off h, pr_off h, pr_off h, pr_off h, pr_off h, pr_off h, pr_off h, pr_off h, pr_off h, pr_off h]
/-- the references behind the start -/
def pr_0 (base : Nat) : Nat → Nat → Option Nat := pr_M (pr_A base) (base + 211)
theorem ps_start (base z : Nat) : f_L_start (some base, fun _ => none) z = some (some base, some (base + 211), some (base + 229), (some (base + 230), pw_lay (pw_σ base) (pm (pr_0 base)))) := by
  have e0 : ((some base, fun _ => none) : aw_W) = (some base, pw_lay (pw_up (pw_σ base) base) (pm fun _ _ => none)) := by rw [pw_lay_none]
  have hm : ∀ i q, pw_ma[i]? = some q → pw_σ base (base + 211 + (i + 1)) = some q := by
    intro i q hq
    have hi : i < 17 := (List.getElem?_eq_some_iff.mp hq).1
    rw [Nat.add_assoc, pw_σ_at]
    have h9 : ∀ j : Fin 17, pw_τ (211 + (j.val + 1)) = pw_ma[j.val]? := by decide +kernel
    rw [h9 ⟨i, hi⟩]
    exact hq
  unfold f_L_start
  rw [e0]
  simp only [Option.bind_some]
  rw [pw_new (e := .inr (0, [.null, .null, .null, .int 0, .int 0])) (pw_σ_0 base) (fun _ => rfl) rfl, ps_A]
  simp only [Option.bind_some]
  rw [pw_new (e := .inr (7, [.int 0, .int 0, .null, .null, .null, .null, .null, .null, .null, .null, .null, .null, .null, .null, .null, .int 0, .null, .null, .null, .null, .int 0, .int 0, .int 0, .int 0, .int 0, .int 0, .int 0, .int 0, .int 0])) (pw_σ_at base 211) (pr_A_up base _ (Nat.le_refl _)) rfl, ps_M (m := base + 211) (pw_σ_at base 211) hm (fun b hb k => pr_A_up base b (by omega) k)]
  simp only [Option.bind_some]
  rw [show base + 211 + 18 = base + 229 from rfl, pw_new (e := .inl (2, (1, .inr (.inl (fun _ => 0))))) (pw_σ_at base 229) (fun k => by rw [pr_M_off (by omega)]; exact pr_A_up base _ (by omega) k) rfl, show base + 229 + 1 = base + 230 from rfl, pw_up_all]
  rfl
