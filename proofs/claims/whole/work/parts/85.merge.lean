/-! ===== the store merges ===== -/
section
variable {μ μ' : pw_Mem} {s : Option Nat} {b : Nat} {φ φ' : Nat → qf} {sl : List Nat} {cnt : Nat} {act : Bool} {last time : Nat} {cl : Bool} {D : List (Nat × Nat × Nat)} {ou fs : List Nat} {made taken af ar : Nat} {src : Nat → Nat → Nat × Nat} {P : Nat → Prop}
theorem L_merge_bad {p : Int32} (h : p < 1 ∨ ¬ p ≤ 20) : f_L_merge (s, pw_lay (pw_σ b) μ) (some b) p (some (b + 229)) = some (1, (none, pw_lay (pw_σ b) μ)) := by
  unfold f_L_merge f_A_merge
  rw [kA_ob, Option.bind_some, rg_no h]
  simp only [Option.bind_some, if_true]
theorem rg_20 {w : aw_W} {n : Nat} (h1 : 1 ≤ n) (h2 : n ≤ 20) : f_A_checkRange w (nI n) 1 20 = some (.inl (), w) := rg_ok (show ¬ nI n < 1 from nI_nlt (b := 1) h1 (by omega)) (show nI n ≤ 20 from nI_le (b := 20) h2 (by decide))
theorem L_merge_cl (hA : kA μ b time true) {n : Nat} (h1 : 1 ≤ n) (h2 : n ≤ 20) : f_L_merge (s, pw_lay (pw_σ b) μ) (some b) (nI n) (some (b + 229)) = some (2, (none, pw_lay (pw_σ b) μ)) := by
  unfold f_L_merge f_A_merge
  rw [kA_ob, Option.bind_some, rg_20 h1 h2]
  simp only [Option.bind_some, kA_ob]
  rw [kO_no hA]
  simp only [Option.bind_some]
  rw [if_neg (by decide), if_pos trivial]
theorem L_merge_no (hA : kA μ b time false) (hS : kS μ b sl cnt act last) (hG : kG μ b ou made 0 af ar) {n : Nat} (h1 : 1 ≤ n) (h2 : n ≤ 20) (h0 : (if act then cnt - 1 else cnt) = 0) : f_L_merge (s, pw_lay (pw_σ b) μ) (some b) (nI n) (some (b + 229)) = some (2, (none, pw_lay (pw_σ b) μ)) := by
  unfold f_L_merge f_A_merge
  rw [kA_ob, Option.bind_some, rg_20 h1 h2]
  simp only [Option.bind_some, kA_ob]
  rw [kO_ok hA]
  simp only [Option.bind_some, kA_g2 hA, kG_ob]
  rw [kG_goes hG (by decide), if_pos rfl]
  simp only [Option.bind_some, if_true, kA_g0 hA, kS_ob]
  rw [kS_sealed hS, h0]
  simp only [Option.bind_some]
  rw [if_pos (show nI 0 = 0 from rfl)]
  simp only [Option.bind_some]
  rw [if_neg (by decide), if_pos trivial]
/-- the rest of a merge's call, when it goes on -/
theorem A_merge_go (hA : kA μ b time false) {M : qM} (hM : kM μ b sl ou cnt act last D taken M) (hI : mI b sl ou D taken M) (ap : pk_ap sl ou) (ht : taken ≤ cnt) (hat : act = true → taken ≤ cnt - 1) (hs : dS D) (hn : dN M.1 D) (ok : dOK M.1 (sl.take cnt) D) (har : M.2.2.2.1 < 2 ^ 10) {n : Nat} (h2 : n ≤ 20) :
    ∃ μ', (((aw_gR (s, pw_lay (pw_σ b) μ) (some b) 0 2).bind fun v32 =>
        (aw_gR (s, pw_lay (pw_σ b) μ) (some b) 0 0).bind fun v33 =>
        (aw_gR (s, pw_lay (pw_σ b) μ) (some b) 0 1).bind fun v34 =>
        (aw_obj (s, pw_lay (pw_σ b) μ) v32 2).bind fun v35 =>
        (f_G_advance (s, pw_lay (pw_σ b) μ) v32 (nI n) v33 v34).bind fun v36 =>
        (aw_gR v36 (some b) 0 2).bind fun v37 =>
        (aw_gR v36 (some b) 0 0).bind fun v38 =>
        (aw_obj v36 v37 2).bind fun v39 =>
        (f_G_cameToAll v36 v37 v38).bind fun v40 =>
        if v40.1 = 0 then
          some ((.inl (0 : Int32), v40.2) : (Int32 ⊕ String) × aw_W)
        else
          (aw_gR v40.2 (some b) 0 2).bind fun v41 =>
          (aw_gR v40.2 (some b) 0 0).bind fun v42 =>
          (aw_gR v40.2 (some b) 0 1).bind fun v43 =>
          (aw_obj v40.2 v41 2).bind fun v44 =>
          (f_G_publish v40.2 v41 v42 v43).bind fun v45 =>
          some (.inl (1 : Int32), v45))) = some (.inl (if (pk_adv sl ou D taken n M).2.2.1 < taken then 0 else 1), (s, pw_lay (pw_σ b) μ')) ∧ pw_fr μ μ' (pw_inC b) ∧ kA μ' b time false ∧ mI b sl ou D taken (pk_adv sl ou D taken n M) ∧ (∀ i, i < 6 → (pk_adv sl ou D taken n M).1 (sl.getD i 0) = M.1 (sl.getD i 0)) ∧
      ((pk_adv sl ou D taken n M).2.2.1 < taken → kM μ' b sl ou cnt act last D taken (pk_adv sl ou D taken n M)) ∧
      (¬ (pk_adv sl ou D taken n M).2.2.1 < taken → ∃ sl' ou', kS μ' b sl' (cnt - (taken - (pk_adv sl ou D taken n M).2.1)) act last ∧ kE μ' b (Dx (pk_adv sl ou D taken n M).1 ou (pk_adv sl ou D taken n M).2.2.2.2 D (pk_adv sl ou D taken n M).2.1) ∧ kF μ' b (φx (pk_adv sl ou D taken n M).1 sl ou (pk_adv sl ou D taken n M).2.1) ∧ kG μ' b ou' (pk_adv sl ou D taken n M).2.1 0 (pk_adv sl ou D taken n M).2.2.1 (pk_adv sl ou D taken n M).2.2.2.1 ∧ dOK (pk_adv sl ou D taken n M).1 (sl ++ ou) (Dx (pk_adv sl ou D taken n M).1 ou (pk_adv sl ou D taken n M).2.2.2.2 D (pk_adv sl ou D taken n M).2.1) ∧ dN (pk_adv sl ou D taken n M).1 (Dx (pk_adv sl ou D taken n M).1 ou (pk_adv sl ou D taken n M).2.2.2.2 D (pk_adv sl ou D taken n M).2.1) ∧ dS (Dx (pk_adv sl ou D taken n M).1 ou (pk_adv sl ou D taken n M).2.2.2.2 D (pk_adv sl ou D taken n M).2.1) ∧ pk_ap sl' ou' ∧ (∀ j, j < (pk_adv sl ou D taken n M).2.1 → sl'.getD j 0 = ou.getD j 0) ∧ ∀ j, (pk_adv sl ou D taken n M).2.1 ≤ j → j < cnt - (taken - (pk_adv sl ou D taken n M).2.1) → sl'.getD j 0 = sl.getD (j + (taken - (pk_adv sl ou D taken n M).2.1)) 0) := by
  have h6 : cnt ≤ 6 := hM.1.2.2.2.2.2.1
  have b1 : ∀ f ∈ sl, isB b f := hM.1.2.2.2.2.2.2.2.2
  have b3 : ∀ o, o < 6 → isB b (ou.getD o 0) := fun o ho => (kG_getD hM.2.2.2.1 ho).2.2
  have b5 : ∀ f ∈ ou, isB b f := hM.2.2.2.1.2.2.2.2.2.2.2
  have hsli : ∀ f ∈ sl, ∃ i, i < 6 ∧ f = sl.getD i 0 := fun f hf => by
    obtain ⟨i, hi, rfl⟩ := List.mem_iff_getElem.mp hf
    refine ⟨i, by rw [← ap.1]; exact hi, ?_⟩
    unfold List.getD
    rw [List.getElem?_eq_getElem hi]
    rfl
  have hDs : ∀ e ∈ D, ∀ o', o' < 6 → e.2.1 ≠ ou.getD o' 0 := fun e he o' ho' hc => by
    obtain ⟨i, hi, e1⟩ := hsli _ (List.mem_of_mem_take (ok e he).1)
    exact ap.2.2.2.2 i o' hi ho' (e1.symm.trans hc)
  obtain ⟨μ1, e1, M1, k1, I1, sk1, ar1, sl1, g1⟩ := kM_adv (s := s) hM hI ap ht hs ok (fun f hf => List.mem_of_mem_take hf) hDs har h2
  have hA1 := hA.fr g1 (pw_inM.no b5 (by omega))
  obtain ⟨a2, μ2, e2, ha2, hG2, g2⟩ := kG_came (s := s) k1.2.2.2.1 k1.1 k1.2.2.1 ht I1.2.2.2.1 ar1
  have hmade : M1.2.1 ≤ 6 := by have := I1.2.2.2.2.1; omega
  have k2 := k1.cur hmade g2 hG2
  have k2' : kM μ2 b sl ou cnt act last D taken (pk_skM sl taken M1) := k2
  rw [sk1] at k2'
  have ok1 : dOK M1.1 (sl.take cnt) D := fun e he => by
    obtain ⟨c1, r, c2, c3⟩ := ok e he
    obtain ⟨i0, hi0, he0⟩ := hsli _ (List.mem_of_mem_take c1)
    refine ⟨c1, r, ?_, c3⟩
    rw [he0, sl1 i0 hi0, ← he0]
    exact c2
  have hD1 : ∀ e ∈ D, e.2.2 < (M1.1 e.2.1).2.2.2.2.length := fun e he => by
    obtain ⟨-, r, c2, -⟩ := ok1 e he
    exact (List.getElem?_eq_some_iff.mp c2).1
  have I2 := I1.skip hD1
  rw [sk1] at I2
  have hA2 := hA1.fr g2 (by omega)
  have eφ : (pk_adv sl ou D taken n M).1 = M1.1 := by rw [← sk1]; rfl
  have eaf : (pk_sk (pk_cs M1.1 sl) (taken - M1.2.2.1) M1.2.2.1 M1.2.2.2.1).1 = (pk_adv sl ou D taken n M).2.2.1 := by rw [← sk1]; rfl
  rw [eaf] at ha2
  have gC1 : pw_fr μ μ2 (pw_inC b) := (g1.mono (fun a ha => by
    unfold pw_inC
    rcases ha with ha | ⟨f, hf, ha⟩
    · omega
    · have := (b5 f hf).at ha
      omega)).trans (g2.mono (fun a ha => by unfold pw_inC; omega))
  have hsl2 : ∀ i, i < 6 → (pk_adv sl ou D taken n M).1 (sl.getD i 0) = M.1 (sl.getD i 0) := fun i hi => by rw [eφ, sl1 i hi]
  have ok2 : dOK (pk_adv sl ou D taken n M).1 (sl.take cnt) D := by rw [eφ]; exact ok1
  rw [kA_g2 hA, Option.bind_some, kA_g0 hA, Option.bind_some, kA_g1 hA, Option.bind_some, kG_ob, Option.bind_some, e1, Option.bind_some, kA_g2 hA1, Option.bind_some, kA_g0 hA1, Option.bind_some, kG_ob, Option.bind_some, e2, Option.bind_some]
  dsimp only
  generalize pk_adv sl ou D taken n M = K at k2' I2 ha2 hsl2 ok2 ⊢
  by_cases c : K.2.2.1 < taken
  · rw [if_pos c] at ha2
    rw [if_pos ha2, if_pos c]
    exact ⟨μ2, rfl, gC1, hA2, I2, hsl2, fun _ => k2', fun hc => absurd c hc⟩
  · rw [if_neg c] at ha2
    have hn2 : dN K.1 D := fun e he r hr => by
      obtain ⟨c1, -⟩ := ok e he
      obtain ⟨i0, hi0, he0⟩ := hsli _ (List.mem_of_mem_take c1)
      refine hn e he r ?_
      rw [he0, ← hsl2 i0 hi0, ← he0]
      exact hr
    have ok3 : dOK K.1 (sl ++ ou) D := fun e he => by
      obtain ⟨c1, r, c2, c3⟩ := ok2 e he
      exact ⟨List.mem_append_left _ (List.mem_of_mem_take c1), r, c2, c3⟩
    obtain ⟨μ3, e3, sl', ou', q1, q2, q3, q4, g3, q5, q6, q7, q8, q9, q10⟩ := kM_publish (s := s) k2' I2 ap ht hat hs hn2 ok3
    have hKm : K.2.1 ≤ taken := I2.2.2.2.2.1
    have hA3 := hA2.fr g3 (fun hc => by
      rcases hc with hc | hc | hc | hc | hc | ⟨o, ho, hc⟩
      · omega
      · omega
      · omega
      · omega
      · unfold pw_inD at hc; omega
      · exact (b3 o (by omega)).ne (a := b) (by omega) ⟨by omega, by omega⟩)
    rw [if_neg (by rw [ha2]; decide), kA_g2 hA2, Option.bind_some, kA_g0 hA2, Option.bind_some, kA_g1 hA2, Option.bind_some, kG_ob, Option.bind_some, e3, Option.bind_some, if_neg c]
    refine ⟨μ3, rfl, gC1.trans (g3.mono (fun a ha => ?_)), hA3, I2, hsl2, fun hc => absurd hc c, fun _ => ⟨sl', ou', q1, q2, q3, q4, q5, q6, q7, q8, q9, q10⟩⟩
    unfold pw_inC
    rcases ha with ha | ha | ha | ha | ha | ⟨o, ho, ha⟩
    · omega
    · omega
    · omega
    · omega
    · unfold pw_inD at ha; omega
    · have := (b3 o (by omega)).at (a := a) ⟨by omega, by omega⟩
      omega
end
