/-! ===== where things lie behind the start ===== -/
/-- the references inside a file at f -/
def pw_Fp (ρ : Nat → Nat → Option Nat) (f : Nat) : Prop := ρ f 0 = some (f + 1) ∧ ρ f 1 = some (f + 3) ∧ ρ f 2 = some (f + 5) ∧ ρ (f + 1) 0 = some (f + 2) ∧ ρ (f + 3) 0 = some (f + 4) ∧ ∀ k, k < 11 → ρ (f + 5) k = some (f + 6 + k)
theorem pw_Fp.kept {ρ ρ' : Nat → Nat → Option Nat} {f : Nat} (h : pw_Fp ρ f) (hq : ∀ b, f ≤ b → b < f + 17 → ρ' b = ρ b) : pw_Fp ρ' f := by
  obtain ⟨h0, h1, h2, h3, h4, h5⟩ := h
  exact ⟨by rw [hq f (by omega) (by omega)]; exact h0, by rw [hq f (by omega) (by omega)]; exact h1, by rw [hq f (by omega) (by omega)]; exact h2, by rw [hq (f + 1) (by omega) (by omega)]; exact h3, by rw [hq (f + 3) (by omega) (by omega)]; exact h4, fun k hk => by rw [hq (f + 5) (by omega) (by omega)]; exact h5 k hk⟩
section
variable {ρ : Nat → Nat → Option Nat}
theorem pr_recs_in {a z : Nat} : ∀ n k, k < n → pr_recs ρ a z n a k = some (z + k)
  | n + 1, k, h => by
    show (if a = a ∧ k = n then some (z + n) else pr_recs ρ a z n a k) = _
    by_cases hk : k = n
    · rw [if_pos ⟨rfl, hk⟩, hk]
    · rw [if_neg (fun hc => hk hc.2), pr_recs_in n k (by omega)]
theorem pr_at {a k : Nat} {x : Option Nat} : pr ρ a k x a k = x := if_pos ⟨rfl, rfl⟩
theorem pr_ne {a k b j : Nat} {x : Option Nat} (h : ¬ (b = a ∧ j = k)) : pr ρ a k x b j = ρ b j := if_neg h
theorem pr_F_in {f : Nat} : pw_Fp (pr_F ρ f (f + 1)) f := by
  unfold pr_F
  refine ⟨?_, ?_, ?_, ?_, ?_, fun k hk => ?_⟩
  · rw [pr_recs_off (by omega), pr_ne (by omega), pr_ne (by omega), pr_ne (by omega), pr_at]
  · rw [pr_recs_off (by omega), pr_ne (by omega), pr_at]
  · rw [pr_recs_off (by omega), pr_at]
  · rw [pr_recs_off (by omega), pr_ne (by omega), pr_ne (by omega), pr_ne (by omega), pr_ne (by omega), pr_at]
  · rw [pr_recs_off (by omega), pr_ne (by omega), pr_ne (by omega), show f + 1 + 2 = f + 3 from rfl, pr_at]
  · rw [show f + 5 = f + 1 + 4 from rfl, pr_recs_in 11 k hk]
theorem pr_files_in {a z : Nat} (ha : a < z) : ∀ n i, i < n → pw_Fp (pr_files ρ a z n) (z + 17 * i) ∧ pr_files ρ a z n a i = some (z + 17 * i)
  | n + 1, i, h => by
    have e1 : pr_files ρ a z (n + 1) = pr (pr_F (pr_files ρ a z n) (z + 17 * n) (z + 17 * n + 1)) a n (some (z + 17 * n)) := rfl
    rw [e1]
    by_cases hi : i = n
    · subst hi
      exact ⟨pr_F_in.kept (fun b hb _ => pr_off (by omega)), pr_at⟩
    · obtain ⟨g1, g2⟩ := pr_files_in ha n i (by omega)
      refine ⟨g1.kept (fun b hb hb2 => ?_), ?_⟩
      · rw [pr_off (by omega), pr_F_off (by omega)]
      · rw [pr_ne (by omega), pr_F_off (by omega), g2]
end
/-- the references that never change, and the slots and outputs as they are at first -/
theorem pw_ptrs (base : Nat) : pr_0 base base 0 = some (base + 1) ∧ pr_0 base base 1 = some (base + 105) ∧ pr_0 base base 2 = some (base + 107) ∧ pr_0 base (base + 1) 0 = some (base + 2) ∧ pr_0 base (base + 1) 2 = none ∧ pr_0 base (base + 105) 0 = some (base + 106) ∧ pr_0 base (base + 107) 0 = some (base + 108) ∧
    (∀ i, i < 6 → pw_Fp (pr_0 base) (base + 3 + 17 * i) ∧ pr_0 base (base + 2) i = some (base + 3 + 17 * i)) ∧ (∀ i, i < 6 → pw_Fp (pr_0 base) (base + 109 + 17 * i) ∧ pr_0 base (base + 108) i = some (base + 109 + 17 * i)) := by
  have hM : ∀ b, b ≠ base + 211 → pr_0 base b = pr_A base b := fun b h => pr_M_off h
  have hS : ∀ b, (base + 2 ≤ b ∧ b < base + 105) → pr_A base b = pr_files (pr (fun _ _ => none) (base + 1) 0 (some (base + 2))) (base + 2) (base + 3) 6 b := by
    intro b hb
    unfold pr_A
    rw [pr_off (by omega), pr_files_off (by omega) 6 (by omega), pr_off (by omega), pr_off (by omega), pr_off (by omega), pr_off (by omega), pr_off (by omega)]
  refine ⟨?_, ?_, ?_, ?_, ?_, ?_, ?_, fun i hi => ?_, fun i hi => ?_⟩
  · rw [hM _ (by omega)]
    unfold pr_A
    rw [pr_ne (by omega), pr_files_off (by omega) 6 (by omega), pr_ne (by omega), pr_ne (by omega), pr_ne (by omega), pr_at]
  · rw [hM _ (by omega)]
    unfold pr_A
    rw [pr_ne (by omega), pr_files_off (by omega) 6 (by omega), pr_ne (by omega), pr_at]
  · rw [hM _ (by omega)]
    unfold pr_A
    rw [pr_at]
  · rw [hM _ (by omega)]
    unfold pr_A
    rw [pr_ne (by omega), pr_files_off (by omega) 6 (by omega), pr_ne (by omega), pr_ne (by omega), pr_ne (by omega), pr_ne (by omega), pr_ne (by omega), pr_files_off (by omega) 6 (by omega), pr_at]
  · rw [hM _ (by omega)]
    unfold pr_A
    rw [pr_ne (by omega), pr_files_off (by omega) 6 (by omega), pr_ne (by omega), pr_ne (by omega), pr_ne (by omega), pr_ne (by omega), pr_at]
  · rw [hM _ (by omega)]
    unfold pr_A
    rw [pr_ne (by omega), pr_files_off (by omega) 6 (by omega), pr_ne (by omega), pr_ne (by omega), pr_at]
  · rw [hM _ (by omega)]
    unfold pr_A
    rw [pr_ne (by omega), pr_files_off (by omega) 6 (by omega), pr_at]
  · obtain ⟨g1, g2⟩ := pr_files_in (ρ := pr (fun _ _ => none) (base + 1) 0 (some (base + 2))) (a := base + 2) (z := base + 3) (by omega) 6 i hi
    refine ⟨g1.kept (fun b hb hb2 => ?_), ?_⟩
    · rw [hM _ (by omega), hS _ (by omega)]
    · rw [hM _ (by omega), hS _ (by omega), g2]
  · unfold pr_0
    have hb : ∀ b, (base + 108 ≤ b ∧ b < base + 211) → pr_M (pr_A base) (base + 211) b = pr_files (pr (pr (pr (pr (pr (pr_files (pr (fun _ _ => none) (base + 1) 0 (some (base + 2))) (base + 2) (base + 3) 6) (base + 1) 2 none) base 0 (some (base + 1))) (base + 105) 0 (some (base + 106))) base 1 (some (base + 105))) (base + 107) 0 (some (base + 108))) (base + 108) (base + 109) 6 b := by
      intro b hb
      rw [pr_M_off (by omega)]
      unfold pr_A
      rw [pr_off (by omega)]
    obtain ⟨g1, g2⟩ := pr_files_in (ρ := pr (pr (pr (pr (pr (pr_files (pr (fun _ _ => none) (base + 1) 0 (some (base + 2))) (base + 2) (base + 3) 6) (base + 1) 2 none) base 0 (some (base + 1))) (base + 105) 0 (some (base + 106))) base 1 (some (base + 105))) (base + 107) 0 (some (base + 108))) (a := base + 108) (z := base + 109) (by omega) 6 i hi
    exact ⟨g1.kept (fun b h1 h2 => hb b (by omega)), (congrFun (hb _ (by omega)) i).trans g2⟩
