/-! ===== a merge is published, on ===== -/
theorem pk_ap.perm {sl ou sl' : List Nat} (ap : pk_ap sl ou) (hl : sl'.length = 6) (π : Nat → Nat) (h1 : ∀ j, j < 6 → π j < 6 ∧ sl'.getD j 0 = sl.getD (π j) 0) (h2 : ∀ i j, i < 6 → j < 6 → π i = π j → i = j) : pk_ap sl' ou := by
  obtain ⟨p1, p2, p3, p4, p5⟩ := ap
  refine ⟨hl, p2, fun i j hi hj e => ?_, p4, fun i j hi hj => ?_⟩
  · rw [(h1 i hi).2, (h1 j hj).2] at e
    exact h2 i j hi hj (p3 _ _ (h1 i hi).1 (h1 j hj).1 e)
  · rw [(h1 i hi).2]
    exact p5 _ j (h1 i hi).1 hj
theorem pk_ap.swap {sl ou : List Nat} (ap : pk_ap sl ou) {i : Nat} (hi : i ≤ 6) : pk_ap (slx sl ou i) (oux sl ou i) := by
  have ap' := ap
  obtain ⟨p1, p2, p3, p4, p5⟩ := ap'
  refine ⟨by rw [slx_len]; exact p1, by rw [oux_len]; exact p2, fun x y hx hy e => ?_, fun x y hx hy e => ?_, fun x y hx hy e => ?_⟩
  · rw [slx_getD p1 i hi, slx_getD p1 i hi] at e
    by_cases c1 : x < i <;> by_cases c2 : y < i
    · rw [if_pos c1, if_pos c2] at e; exact p4 x y hx hy e
    · rw [if_pos c1, if_neg c2] at e; exact absurd e.symm (p5 y x hy hx)
    · rw [if_neg c1, if_pos c2] at e; exact absurd e (p5 x y hx hy)
    · rw [if_neg c1, if_neg c2] at e; exact p3 x y hx hy e
  · rw [oux_getD p2 i hi, oux_getD p2 i hi] at e
    by_cases c1 : x < i <;> by_cases c2 : y < i
    · rw [if_pos c1, if_pos c2] at e; exact p3 x y hx hy e
    · rw [if_pos c1, if_neg c2] at e; exact absurd e (p5 x y hx hy)
    · rw [if_neg c1, if_pos c2] at e; exact absurd e.symm (p5 y x hy hx)
    · rw [if_neg c1, if_neg c2] at e; exact p4 x y hx hy e
  · rw [slx_getD p1 i hi, oux_getD p2 i hi] at e
    by_cases c1 : x < i <;> by_cases c2 : y < i
    · rw [if_pos c1, if_pos c2] at e; exact absurd e.symm (p5 y x hy hx)
    · rw [if_pos c1, if_neg c2] at e
      have := p4 x y hx hy e
      omega
    · rw [if_neg c1, if_pos c2] at e
      have := p3 x y hx hy e
      omega
    · rw [if_neg c1, if_neg c2] at e; exact p5 x y hx hy e
section
variable {μ μ' : pw_Mem} {s : Option Nat} {b cnt last taken : Nat} {act : Bool} {sl ou fs : List Nat} {D : List (Nat × Nat × Nat)} {M : qM}
/-- what publishing touches -/
def pw_inQ (b made : Nat) (ou : List Nat) (a : Nat) : Prop := a = b + 1 ∨ a = b + 107 ∨ pw_inP b made ou a
theorem kM_publish (hM : kM μ b sl ou cnt act last D taken M) (hI : mI b sl ou D taken M) (ap : pk_ap sl ou) (ht : taken ≤ cnt) (hat : act = true → taken ≤ cnt - 1) (hs : dS D) (hn : dN M.1 D) (ok : dOK M.1 (sl ++ ou) D) :
    pT (pw_σ b) s (fun μ' => ∃ sl' ou', kS μ' b sl' (cnt - (taken - M.2.1)) act last ∧ kE μ' b (Dx M.1 ou M.2.2.2.2 D M.2.1) ∧ kF μ' b (φx M.1 sl ou M.2.1) ∧ kG μ' b ou' M.2.1 0 M.2.2.1 M.2.2.2.1 ∧ pw_fr μ μ' (pw_inQ b M.2.1 ou) ∧ dOK M.1 (sl ++ ou) (Dx M.1 ou M.2.2.2.2 D M.2.1) ∧ dN M.1 (Dx M.1 ou M.2.2.2.2 D M.2.1) ∧ dS (Dx M.1 ou M.2.2.2.2 D M.2.1) ∧ pk_ap sl' ou' ∧ (∀ j, j < M.2.1 → sl'.getD j 0 = ou.getD j 0) ∧ ∀ j, M.2.1 ≤ j → j < cnt - (taken - M.2.1) → sl'.getD j 0 = sl.getD (j + (taken - M.2.1)) 0) (f_G_publish (s, pw_lay (pw_σ b) μ) (some (b + 107)) (some (b + 1)) (some (b + 105))) := by
  have h6 : cnt ≤ 6 := hM.1.2.2.2.2.2.1
  have hmt : M.2.1 ≤ taken := hI.2.2.2.2.1
  unfold f_G_publish
  refine kM_pub1 (G := pT (pw_σ b) s _) hM hI ap ht hat hs hn ok (fun μ1 i0 kS1 kE1 kF1 kG1 g1 ok1 n1 s1 => ?_)
  dsimp only
  rw [kG_g1 kG1, Option.bind_some]
  have ap1 := ap.swap (i := M.2.1) (by omega)
  refine pw_loopG (G := pT (pw_σ b) s _) (taken - M.2.1) (fun n a => ∃ i μ2 sl2, a = (nI i, (s, pw_lay (pw_σ b) μ2)) ∧ n + i = taken ∧ M.2.1 ≤ i ∧ kS μ2 b sl2 (cnt - (i - M.2.1)) act last ∧ pw_fr μ1 μ2 (fun a => a = b + 1 ∨ a = b + 2) ∧ pk_ap sl2 (oux sl ou M.2.1) ∧ (∀ j, j < M.2.1 → sl2.getD j 0 = ou.getD j 0) ∧ ∀ j, M.2.1 ≤ j → j < cnt - (i - M.2.1) → sl2.getD j 0 = sl.getD (j + (i - M.2.1)) 0)
    (fun a => ∃ i μ2 sl2, a = (i, (s, pw_lay (pw_σ b) μ2)) ∧ kS μ2 b sl2 (cnt - (taken - M.2.1)) act last ∧ pw_fr μ1 μ2 (fun a => a = b + 1 ∨ a = b + 2) ∧ pk_ap sl2 (oux sl ou M.2.1) ∧ (∀ j, j < M.2.1 → sl2.getD j 0 = ou.getD j 0) ∧ ∀ j, M.2.1 ≤ j → j < cnt - (taken - M.2.1) → sl2.getD j 0 = sl.getD (j + (taken - M.2.1)) 0) ?_ ?_ ?_
  · refine ⟨M.2.1, μ1, slx sl ou M.2.1, rfl, by omega, Nat.le_refl _, ?_, pw_fr.rfl, ap1, fun j hj => ?_, fun j hj hj2 => ?_⟩
    · rw [Nat.sub_self, Nat.sub_zero]
      exact kS1
    · rw [slx_getD ap.1 _ (by omega), if_pos hj]
    · rw [slx_getD ap.1 _ (by omega), if_neg (by omega), Nat.sub_self]
      rfl
  · rintro n a ⟨i, μ2, sl2, rfl, hni, hmi, kS2, g2, ap2, d1, d2⟩
    have kG2 := kG1.fr g2 (by omega) (by omega)
    dsimp only
    rw [kG_g2 kG2, Option.bind_some]
    by_cases c : i < taken
    · obtain ⟨μ3, sl3, e3, kS3, d3, g3⟩ := kS_takeOut (s := s) kS2 (k := M.2.1) (by omega) (fun h => by have := hat h; omega)
      left
      refine ⟨n - 1, (nI (i + 1), (s, pw_lay (pw_σ b) μ3)), by omega, ?_, i + 1, μ3, sl3, rfl, by omega, by omega, ?_, g2.trans g3, ?_, fun j hj => ?_, fun j hj hj2 => ?_⟩
      · rw [if_neg (nI_ge c (by omega)), kG_g1 kG2, Option.bind_some, kS_ob, Option.bind_some, e3, Option.bind_some, nI_1]
      · rw [show cnt - (i + 1 - M.2.1) = cnt - (i - M.2.1) - 1 by omega]
        exact kS3
      · refine ap2.perm kS3.2.2.2.2.1 (fun j => if j < M.2.1 then j else if j < 5 then j + 1 else M.2.1) (fun j hj => ⟨?_, ?_⟩) (fun x y hx hy e => ?_)
        · split
          · exact hj
          · split <;> omega
        · rw [d3 j hj]
          split
          · rfl
          · split <;> rfl
        · split at e <;> split at e <;> first | omega | (split at e <;> first | omega | (split at e <;> omega))
      · rw [d3 j (by omega), if_pos hj]
        exact d1 j hj
      · rw [d3 j (by omega), if_neg (by omega), if_pos (by omega), d2 (j + 1) (by omega) (by omega)]
        congr 1
        omega
    · right
      have hi : i = taken := by omega
      subst hi
      exact ⟨_, if_pos (nI_le (by omega) (by omega)), nI _, μ2, sl2, rfl, kS2, g2, ap2, d1, d2⟩
  · rintro a ⟨i, μ2, sl2, rfl, kS2, g2, ap2, d1, d2⟩
    have kG2 := kG1.fr g2 (by omega) (by omega)
    obtain ⟨μ3, e3, kG3, g3⟩ := kG_drop (s := s) kG2
    dsimp only
    rw [kG_ob, Option.bind_some, e3]
    refine ⟨μ3, rfl, sl2, oux sl ou M.2.1, kS2.fr g3 (by omega) (by omega), (kE1.fr g2 (by omega) (by omega)).fr g3 (by omega) (by omega), (kF1.fr g2 (fun a ha hc => by omega)).fr g3 (fun a ha hc => by omega), kG3, ((g1.mono (fun a ha => Or.inr (Or.inr ha))).trans (g2.mono (fun a ha => ?_))).trans (g3.mono (fun a ha => Or.inr (Or.inl ha))), ok1, n1, s1, ap2, d1, d2⟩
    rcases ha with ha | ha
    · exact Or.inl ha
    · exact Or.inr (Or.inr (Or.inl ha))
end
