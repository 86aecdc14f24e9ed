/-! ===== a merge's call, on both sides ===== -/
section
variable {μ μ' : pw_Mem} {I I' J : mN} {L L' : mL} {ρ : mQ} {s : Option Nat} {b n : Nat} {φ φ' : Nat → qf} {sl fs : List Nat} {cnt : Nat} {act : Bool} {last time : Nat} {cl : Bool} {D : List (Nat × Nat × Nat)} {ou : List Nat} {made taken af ar : Nat} {src : Nat → Nat → Nat × Nat} {M : qM}
theorem pk_skM_id (h : M.2.2.1 < taken → M.2.2.2.1 < pk_cs M.1 sl M.2.2.1) (hle : M.2.2.1 ≤ taken) : pk_skM sl taken M = M := by
  unfold pk_skM
  rw [pk_sk_id _ _ _ _ (by
    by_cases c : M.2.2.1 < taken
    · exact Or.inr (h c)
    · exact Or.inl (by omega))]
/-- what a merge's call leaves in the store -/
def LmP (μ μ' : pw_Mem) (b time : Nat) (sl ou : List Nat) (cnt : Nat) (act : Bool) (last : Nat) (D : List (Nat × Nat × Nat)) (taken : Nat) (M K : qM) : Prop :=
  pw_fr μ μ' (pw_inC b) ∧ kA μ' b time false ∧ mI b sl ou D taken K ∧ (∀ i, i < 6 → K.1 (sl.getD i 0) = M.1 (sl.getD i 0)) ∧
  (K.2.2.1 < taken → kM μ' b sl ou cnt act last D taken K) ∧
  (¬ K.2.2.1 < taken → ∃ sl' ou', kS μ' b sl' (cnt - (taken - K.2.1)) act last ∧ kE μ' b (Dx K.1 ou K.2.2.2.2 D K.2.1) ∧ kF μ' b (φx K.1 sl ou K.2.1) ∧ kG μ' b ou' K.2.1 0 K.2.2.1 K.2.2.2.1 ∧ dOK K.1 (sl ++ ou) (Dx K.1 ou K.2.2.2.2 D K.2.1) ∧ dN K.1 (Dx K.1 ou K.2.2.2.2 D K.2.1) ∧ dS (Dx K.1 ou K.2.2.2.2 D K.2.1) ∧ pk_ap sl' ou' ∧ (∀ j, j < K.2.1 → sl'.getD j 0 = ou.getD j 0) ∧ ∀ j, K.2.1 ≤ j → j < cnt - (taken - K.2.1) → sl'.getD j 0 = sl.getD (j + (taken - K.2.1)) 0)
theorem L_merge_on (hA : kA μ b time false) (hM : kM μ b sl ou cnt act last D taken M) (ht0 : 0 < taken) (hI : mI b sl ou D taken M) (ap : pk_ap sl ou) (ht : taken ≤ cnt) (hat : act = true → taken ≤ cnt - 1) (hs : dS D) (hn : dN M.1 D) (ok : dOK M.1 (sl.take cnt) D) (har : M.2.2.2.1 < 2 ^ 10) (h1 : 1 ≤ n) (h2 : n ≤ 20) :
    ∃ μ', f_L_merge (s, pw_lay (pw_σ b) μ) (some b) (nI n) (some (b + 229)) = some (0, (s, pw_lay (pw_σ b) (pw_sL μ' (b + 229) 0 (if (pk_adv sl ou D taken n M).2.2.1 < taken then 0 else 1)))) ∧ LmP μ μ' b time sl ou cnt act last D taken M (pk_adv sl ou D taken n M) := by
  have h6 : cnt ≤ 6 := hM.1.2.2.2.2.2.1
  obtain ⟨μ', e, q⟩ := A_merge_go (s := s) hA hM hI ap ht hat hs hn ok har h2
  refine ⟨μ', ?_, q⟩
  unfold f_L_merge f_A_merge
  rw [kA_ob, Option.bind_some, rg_20 h1 h2]
  simp only [Option.bind_some, kA_ob]
  rw [kO_ok hA]
  simp only [Option.bind_some]
  rw [kA_g2 hA, Option.bind_some, kG_ob, Option.bind_some, kG_goes hM.2.2.2.1 (by omega), if_neg (show ¬ taken = 0 by omega), Option.bind_some, if_neg (show ¬ (1 : Int32) = 0 by decide)]
  have e' := e
  rw [kA_g2 hA, Option.bind_some] at e'
  rw [Option.bind_some, e', Option.bind_some]
  dsimp only
  split
  · rw [if_pos rfl, Option.bind_some, aL_put]
    rfl
  · rw [if_neg (by decide), Option.bind_some, aL_put]
    rfl
/-- a merge begins -/
theorem L_merge_new (hA : kA μ b time false) (hS : kS μ b sl cnt act last) (hE : kE μ b D) (hF : kF μ b φ) (hG : kG μ b ou made 0 af ar) (src : Nat → Nat → Nat × Nat) {T : Nat} (hT : T = if act then cnt - 1 else cnt) (ht0 : 0 < T) (hI : mI b sl ou D T (φ, 0, 0, 0, src)) (ap : pk_ap sl ou) (hs : dS D) (hn : dN φ D) (ok : dOK φ (sl.take cnt) D) (h1 : 1 ≤ n) (h2 : n ≤ 20) :
    ∃ μ', f_L_merge (s, pw_lay (pw_σ b) μ) (some b) (nI n) (some (b + 229)) = some (0, (s, pw_lay (pw_σ b) (pw_sL μ' (b + 229) 0 (if (pk_adv sl ou D T n (φ, 0, 0, 0, src)).2.2.1 < T then 0 else 1)))) ∧ LmP μ μ' b time sl ou cnt act last D T (φ, 0, 0, 0, src) (pk_adv sl ou D T n (φ, 0, 0, 0, src)) := by
  have h6 : cnt ≤ 6 := hS.2.2.2.2.2.1
  have hTc : T ≤ cnt ∧ (act = true → T ≤ cnt - 1) := by
    cases act with
    | true => rw [if_pos rfl] at hT; exact ⟨by omega, fun _ => by omega⟩
    | false => rw [if_neg (by decide)] at hT; exact ⟨by omega, fun h => nomatch h⟩
  obtain ⟨μ1, e1, hG1, g1⟩ := kG_begin (s := s) hG T
  have hA1 := hA.fr g1 (by omega)
  have hS1 := hS.fr g1 (by omega) (by omega)
  have hE1 := hE.fr g1 (by omega) (by omega)
  have hF1 := hF.fr g1 (fun a ha hc => by omega)
  have hM1 : kM μ1 b sl ou cnt act last D T (φ, 0, 0, 0, src) := ⟨hS1, hE1, hF1, hG1, fun o j ho => absurd ho (Nat.not_lt_zero _)⟩
  obtain ⟨μ', e, q1, q2⟩ := A_merge_go (s := s) hA1 hM1 hI ap hTc.1 hTc.2 hs hn ok (by dsimp only; omega) h2
  refine ⟨μ', ?_, (g1.mono (fun a ha => by unfold pw_inC; omega)).trans q1, q2⟩
  unfold f_L_merge f_A_merge
  rw [kA_ob, Option.bind_some, rg_20 h1 h2]
  simp only [Option.bind_some, kA_ob]
  rw [kO_ok hA]
  simp only [Option.bind_some]
  have hsc : f_S_sealedCount (s, pw_lay (pw_σ b) μ) (some (b + 1)) = some (nI T) := by rw [kS_sealed hS, hT]
  rw [kA_g2 hA, Option.bind_some, kG_ob, Option.bind_some, kG_goes hG (by decide), if_pos rfl, Option.bind_some, if_pos rfl, kA_g0 hA, Option.bind_some, kS_ob, Option.bind_some, hsc, Option.bind_some, if_neg (nI_ne0 ht0 (by omega)), Option.bind_some, Option.bind_some, kS_ob, Option.bind_some, hsc, Option.bind_some, kG_ob, Option.bind_some, e1, Option.bind_some, e, Option.bind_some]
  dsimp only
  split
  · rw [if_pos rfl, Option.bind_some, aL_put]
    rfl
  · rw [if_neg (by decide), Option.bind_some, aL_put]
    rfl
end
