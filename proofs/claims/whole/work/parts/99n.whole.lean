/-! ===== the reference merges ===== -/
section
variable {I I' J : mN} {L L' : mL} {ρ : mQ} {s : Option Nat} {b n : Nat} {E : qE} {φ φ' : Nat → qf} {sl fs : List Nat} {cnt : Nat} {act : Bool} {last time : Nat} {cl : Bool} {D : List (Nat × Nat × Nat)} {ou : List Nat} {made taken af ar : Nat} {src : Nat → Nat → Nat × Nat} {M : qM}
theorem mI.Z (h : mI b sl ou D taken M) (hbo : ∀ o, o < 6 → isB b (ou.getD o 0)) {o : Nat} (ho : o < M.2.1) (h6 : o < 6) : mZ (M.1 (ou.getD o 0)) := by
  obtain ⟨h1, h2, h3, -⟩ := h
  obtain ⟨c, e⟩ := h3 o ho
  obtain ⟨v, l⟩ := h1 _ (hbo o h6)
  have := c.len v.2.2.2.2
  exact ⟨l, by rw [e]; exact Nat.zero_le _, by omega⟩
theorem pk_step_ou (ap : pk_ap sl ou) {o : Nat} (ho : o < 6) (hm6 : (pk_step sl ou D M).2.1 ≤ 6) (hm : (pk_step sl ou D M).2.1 ≤ o) : (pk_step sl ou D M).1 (ou.getD o 0) = M.1 (ou.getD o 0) := by
  unfold pk_step at hm hm6 ⊢
  split at hm
  · next h =>
    rw [if_pos h] at hm6 ⊢
    unfold pk_cp at hm hm6 ⊢
    split at hm
    · next h2 =>
      rw [if_pos h2] at hm6 ⊢
      dsimp only at hm hm6 ⊢
      exact pu_ne (fun hc => by have := ap.2.2.2.1 _ _ ho (by omega) hc; omega)
    · next h2 =>
      rw [if_neg h2] at hm6 ⊢
      dsimp only at hm hm6 ⊢
      exact pu_ne (fun hc => by have := ap.2.2.2.1 _ _ ho (by omega) hc; omega)
  · next h =>
    rw [if_neg h]
theorem mrM.MR (h : mrM I b sl ou cnt taken M) (hfl : mFl I b cnt act last time) (hcl : I (b + 211) 21 = if cl then 1 else 0) (hd : ∃ n E, mDir I L b n E ∧ dR (fun f => (M.1 f).1) n E D) (h24 : I (b + 211) 24 = if taken = 0 then 0 else 1) : MR I L b M.1 sl cnt act last time cl D ou M.2.1 taken M.2.2.1 M.2.2.2.1 M.2.2.2.2 := by
  obtain ⟨q1, q2, q3, q4, q5, q6⟩ := h
  exact ⟨hfl, hcl, q1, hd, h24, fun _ => ⟨q2, q3, q4, q5, q6⟩⟩
theorem mCg_C {a k : Nat} (h : mCg b a k) : mCM b a := by
  unfold mCg at h
  unfold mCM
  rcases h with h | ⟨o, ho, h, -⟩
  · omega
  · unfold mC at h
    omega
theorem mCp_C {a k : Nat} (h : mCp b a k) : mCM b a := by
  unfold mCp at h
  unfold mCM
  rcases h with h | h | h | ⟨o, ho, h⟩
  · omega
  · omega
  · omega
  · unfold mC at h
    omega
/-- a merge's call goes on -/
theorem M_merge_tail (hP : mP b ρ) (hR : MR I L b (pk_skM sl taken M).1 sl cnt act last time false D ou (pk_skM sl taken M).2.1 taken (pk_skM sl taken M).2.2.1 (pk_skM sl taken M).2.2.2.1 (pk_skM sl taken M).2.2.2.2) (ht0 : 0 < taken) (hs : dS D) (hnum : pk_nums M.1 sl cnt) (hn5 : ∀ i, i < cnt → (M.1 (sl.getD i 0)).1 < 100000) (ok : dOK M.1 (sl.take cnt) D) (hI : mI b sl ou D taken M) (ap : pk_ap sl ou) (hbo : ∀ o, o < 6 → isB b (ou.getD o 0)) (hbs : ∀ i, i < 6 → isB b (sl.getD i 0)) (h6 : cnt ≤ 6) (ht : taken ≤ cnt) (hz : ∀ i, i < 6 → mZ (M.1 (sl.getD i 0)) ∧ mZ (M.1 (ou.getD i 0))) {N : Nat} (hN : N ≤ 20) :
    ∃ I', ((aw_wh (σ := Int32 × aw_W) (τ := Int32 × aw_W) (fun s20 =>
      if nI N ≤ s20.1 then
        some (.inr (s20.1, s20.2))
      else
        (aw_gI s20.2 (some (b + 211)) 7 26).bind fun v21 =>
        (aw_gI s20.2 (some (b + 211)) 7 25).bind fun v22 =>
        if v22 ≤ v21 then
          some (.inr (s20.1, s20.2))
        else
          (aw_obj s20.2 (some (b + 211)) 7).bind fun v23 =>
          (f_M_comeToNext s20.2 (some (b + 211))).bind fun v24 =>
          some (.inl (s20.1 + 1, v24))) ((0 : Int32), (s, pw_lay (pw_σ b) (I, L, ρ)))).bind fun e25 =>
    (aw_gI e25.2 (some (b + 211)) 7 26).bind fun v26 =>
    (aw_gI e25.2 (some (b + 211)) 7 25).bind fun v27 =>
    if v27 ≤ v26 then
      (aw_obj e25.2 (some (b + 211)) 7).bind fun v28 =>
      (f_M_publish e25.2 (some (b + 211))).bind fun v29 =>
      some ((1 : Int32), v29)
    else
      some ((0 : Int32), e25.2)) = some (if (pk_adv sl ou D taken N M).2.2.1 < taken then 0 else 1, (s, pw_lay (pw_σ b) (I', L, ρ))) ∧ I' (b + 211) 0 = I (b + 211) 0 ∧ mfr I I' (fun a _ => mCM b a) ∧
      ((pk_adv sl ou D taken N M).2.2.1 < taken → MR I' L b (pk_adv sl ou D taken N M).1 sl cnt act last time false D ou (pk_adv sl ou D taken N M).2.1 taken (pk_adv sl ou D taken N M).2.2.1 (pk_adv sl ou D taken N M).2.2.2.1 (pk_adv sl ou D taken N M).2.2.2.2) ∧
      (¬ (pk_adv sl ou D taken N M).2.2.1 < taken → ∀ sl' ou', (∀ j, j < (pk_adv sl ou D taken N M).2.1 → sl'.getD j 0 = ou.getD j 0) → (∀ j, (pk_adv sl ou D taken N M).2.1 ≤ j → j < cnt - (taken - (pk_adv sl ou D taken N M).2.1) → sl'.getD j 0 = sl.getD (j + (taken - (pk_adv sl ou D taken N M).2.1)) 0) → MR I' L b (φx (pk_adv sl ou D taken N M).1 sl ou (pk_adv sl ou D taken N M).2.1) sl' (cnt - (taken - (pk_adv sl ou D taken N M).2.1)) act last time false (Dx (pk_adv sl ou D taken N M).1 ou (pk_adv sl ou D taken N M).2.2.2.2 D (pk_adv sl ou D taken N M).2.1) ou' (pk_adv sl ou D taken N M).2.1 0 (pk_adv sl ou D taken N M).2.2.1 (pk_adv sl ou D taken N M).2.2.2.1 (pk_adv sl ou D taken N M).2.2.2.2) := by
  obtain ⟨hFl, hcl, hmF, ⟨n, E, hd, hr⟩, hmg1, hmg2⟩ := hR
  obtain ⟨c1, c2, c3, c4, c5⟩ := hmg2 ht0
  have hsli : ∀ f ∈ sl, ∃ i, i < 6 ∧ f = sl.getD i 0 := fun f hf => by
    obtain ⟨i, hi, rfl⟩ := List.mem_iff_getElem.mp hf
    refine ⟨i, by rw [← ap.1]; exact hi, ?_⟩
    unfold List.getD
    rw [List.getElem?_eq_getElem hi]
    rfl
  have hslc : ∀ f ∈ sl.take cnt, ∃ i, i < cnt ∧ f = sl.getD i 0 := fun f hf => by
    obtain ⟨i, hi, rfl⟩ := List.mem_iff_getElem.mp hf
    rw [List.length_take] at hi
    refine ⟨i, by omega, ?_⟩
    rw [List.getElem_take]
    unfold List.getD
    rw [List.getElem?_eq_getElem (by omega)]
    rfl
  have hDs : ∀ e ∈ D, ∀ o', o' < 6 → e.2.1 ≠ ou.getD o' 0 := fun e he o' ho' hc => by
    obtain ⟨i, hi, e1⟩ := hsli _ (List.mem_of_mem_take (ok e he).1)
    exact ap.2.2.2.2 i o' hi ho' (e1.symm.trans hc)
  have hDc : ∀ e ∈ D, ∃ i, i < cnt ∧ e.2.1 = sl.getD i 0 := fun e he => hslc _ (ok e he).1
  have hin : ∀ o, o < 6 → ou.getD o 0 ∈ sl ++ ou := fun o ho => by
    refine List.mem_append_right _ ?_
    unfold List.getD
    rw [List.getElem?_eq_getElem (by rw [ap.2.1]; exact ho)]
    exact List.getElem_mem _
  have hsl2 : ∀ f ∈ sl ++ ou, (∃ i, i < 6 ∧ f = sl.getD i 0) ∨ ∃ o, o < 6 ∧ f = ou.getD o 0 := fun f hf => by
    rcases List.mem_append.mp hf with hf | hf
    · exact Or.inl (hsli f hf)
    · right
      obtain ⟨i, hi, rfl⟩ := List.mem_iff_getElem.mp hf
      refine ⟨i, by rw [← ap.2.1]; exact hi, ?_⟩
      unfold List.getD
      rw [List.getElem?_eq_getElem hi]
      rfl
  have hcg : ∀ {K1 : mN}, mfr I K1 (mCg b) → (∀ k, k ≠ 26 → k ≠ 27 → k ≠ 28 → K1 (b + 211) k = I (b + 211) k) ∧ mDir K1 L b n E := fun {K1} g => by
    refine ⟨fun k x y z => g _ _ (fun hc => ?_), hd.fr g (fun a k ha hc => ?_)⟩
    · rcases hc with hc | ⟨o, ho, hc, -⟩
      · omega
      · unfold mC at hc; omega
    · rcases hc with hc | ⟨o, ho, hc, -⟩
      · omega
      · unfold mC at hc; omega
  have okM : ∀ {X : qM}, (∀ i, i < 6 → X.1 (sl.getD i 0) = M.1 (sl.getD i 0)) → dOK X.1 (sl.take cnt) D ∧ dR (fun f => (X.1 f).1) n E D ∧ pk_nums X.1 sl cnt := fun {X} hX => by
    refine ⟨fun e he => ?_, hr.renm (fun e he => ?_), fun i hi => ⟨?_, fun j hj hn => ?_⟩⟩
    · obtain ⟨d1, r, d2, d3⟩ := ok e he
      obtain ⟨i, hi, e1⟩ := hDc e he
      refine ⟨d1, r, ?_, d3⟩
      rw [e1, hX i (by omega), ← e1]
      exact d2
    · obtain ⟨i, hi, e1⟩ := hDc e he
      rw [e1, hX i (by omega)]
      rfl
    · rw [hX i (by omega)]; exact (hnum i hi).1
    · rw [hX i (by omega), hX j (by omega)] at hn
      exact (hnum i hi).2 j hj hn
  have hfin : ∀ {X : qM}, dOK X.1 (sl.take cnt) D → ∀ e ∈ D, e.2.2 < (X.1 e.2.1).2.2.2.2.length := fun {X} okX e he => by
    obtain ⟨-, r, d2, -⟩ := okX e he
    exact (List.getElem?_eq_some_iff.mp d2).1
  generalize hK : pk_adv sl ou D taken N M = K
  refine pw_loopG (G := fun x => ∃ I', x = some ((if K.2.2.1 < taken then 0 else 1 : Int32), (s, pw_lay (pw_σ b) (I', L, ρ))) ∧ I' (b + 211) 0 = I (b + 211) 0 ∧ mfr I I' (fun a _ => mCM b a) ∧ (K.2.2.1 < taken → MR I' L b K.1 sl cnt act last time false D ou K.2.1 taken K.2.2.1 K.2.2.2.1 K.2.2.2.2) ∧ (¬ K.2.2.1 < taken → ∀ sl' ou', (∀ j, j < K.2.1 → sl'.getD j 0 = ou.getD j 0) → (∀ j, K.2.1 ≤ j → j < cnt - (taken - K.2.1) → sl'.getD j 0 = sl.getD (j + (taken - K.2.1)) 0) → MR I' L b (φx K.1 sl ou K.2.1) sl' (cnt - (taken - K.2.1)) act last time false (Dx K.1 ou K.2.2.2.2 D K.2.1) ou' K.2.1 0 K.2.2.1 K.2.2.2.1 K.2.2.2.2)) N
    (fun m a => ∃ i J X, a = (nI i, (s, pw_lay (pw_σ b) (J, L, ρ))) ∧ i + m = N ∧ mrM J b sl ou cnt taken (pk_skM sl taken X) ∧ pk_adv sl ou D taken m X = K ∧ mI b sl ou D taken X ∧ (∀ i, i < 6 → X.1 (sl.getD i 0) = M.1 (sl.getD i 0)) ∧ (∀ o, o < 6 → mZ (X.1 (ou.getD o 0))) ∧ mfr I J (mCg b))
    (fun a => ∃ i J, a = (i, (s, pw_lay (pw_σ b) (J, L, ρ))) ∧ mrM J b sl ou cnt taken K ∧ mI b sl ou D taken K ∧ (∀ i, i < 6 → K.1 (sl.getD i 0) = M.1 (sl.getD i 0)) ∧ (∀ o, o < 6 → mZ (K.1 (ou.getD o 0))) ∧ mfr I J (mCg b)) ⟨0, I, M, rfl, Nat.zero_add _, ⟨hmF, c1, c2, c3, c4, c5⟩, hK, hI, fun _ _ => rfl, fun o ho => (hz o ho).2, mfr.rfl⟩ ?_ ?_
  · rintro m a ⟨i, J, X, rfl, him, hJ, hadv, hX, hXs, hXo, gJ⟩
    dsimp only
    obtain ⟨okX, rX, numX⟩ := okM hXs
    have IX := hX.skip (hfin okX)
    have hle := IX.2.2.2.1
    by_cases c : i < N
    · obtain ⟨m', rfl⟩ : ∃ m', m = m' + 1 := ⟨m - 1, by omega⟩
      rw [pk_adv] at hadv
      rw [if_neg (nI_ge c (by omega)), mf_26, Option.bind_some, hJ.2.2.1, mf_25, Option.bind_some, hJ.2.1]
      by_cases c2 : (pk_skM sl taken X).2.2.1 < taken
      · left
        rw [if_pos c2] at hadv
        rw [if_neg (nI_ge c2 (by omega)), mM_ob, Option.bind_some]
        have hlt : (pk_skM sl taken X).2.2.2.1 < pk_cs (pk_skM sl taken X).1 sl (pk_skM sl taken X).2.2.1 := pk_sk_lt (pk_cs X.1 sl) (taken - X.2.2.1) X.2.2.1 X.2.2.2.1 (by
          have := hX.2.2.2.1
          have c2' : (pk_sk (pk_cs X.1 sl) (taken - X.2.2.1) X.2.2.1 X.2.2.2.1).1 < taken := c2
          omega)
        have h1s : ∀ f, (pk_skM sl taken X).1 f = X.1 f := fun _ => rfl
        have okX' : dOK (pk_skM sl taken X).1 (sl.take cnt) D := okX
        have rX' : dR (fun f => ((pk_skM sl taken X).1 f).1) n E D := rX
        have nX' : pk_nums (pk_skM sl taken X).1 sl cnt := numX
        generalize pk_skM sl taken X = Y at *
        have hzY : ∀ i, i < 6 → mZ (Y.1 (sl.getD i 0)) ∧ mZ (Y.1 (ou.getD i 0)) := fun i hi => ⟨by rw [h1s, hXs i hi]; exact (hz i hi).1, by rw [h1s]; exact hXo i hi⟩
        obtain ⟨J2, e2, m2, g2⟩ := M_next (s := s) (L := L) hP hJ (hcg gJ).2 rX' hs nX' (fun e he => by
          obtain ⟨d1, r, d2, d3⟩ := okX' e he
          obtain ⟨j, hj, e1⟩ := hDc e he
          exact ⟨j, r, hj, e1, d2, d3⟩) IX ap hbo hbs h6 ht hzY c2 hlt
        obtain ⟨I3, s3⟩ := IX.step ap (by omega) hbo hbs c2 hlt hs okX' hDs
        have hm3 := I3.2.2.2.2.1
        rw [e2, Option.bind_some, nI_1]
        refine ⟨m', _, Nat.lt_succ_self _, rfl, i + 1, J2, pk_step sl ou D Y, rfl, by omega, m2, hadv, I3, fun i hi => by rw [s3 i hi, h1s, hXs i hi], fun o ho => ?_, gJ.trans g2⟩
        by_cases co : o < (pk_step sl ou D Y).2.1
        · exact I3.Z hbo co ho
        · rw [pk_step_ou ap ho (by omega) (by omega)]
          exact (hzY o ho).2
      · right
        rw [if_neg c2] at hadv
        refine ⟨_, if_pos (nI_le (by omega) (by omega)), _, J, rfl, ?_⟩
        rw [← hadv]
        exact ⟨hJ, IX, hXs, hXo, gJ⟩
    · right
      have hm : m = 0 := by omega
      subst hm
      have hadv' : pk_skM sl taken X = K := hadv
      refine ⟨_, if_pos (nI_le (by omega) (by omega)), _, J, rfl, ?_⟩
      rw [← hadv']
      exact ⟨hJ, IX, hXs, hXo, gJ⟩
  · rintro a ⟨i, J, rfl, hJ, IK, hKs, hKo, gJ⟩
    dsimp only
    obtain ⟨okK, rK, numK⟩ := okM hKs
    obtain ⟨gf, dK⟩ := hcg gJ
    have hle := IK.2.2.2.1
    obtain ⟨l1, l2, l3, l4⟩ := hFl
    rw [mf_26, Option.bind_some, hJ.2.2.1, mf_25, Option.bind_some, hJ.2.1]
    by_cases c : K.2.2.1 < taken
    · rw [if_neg (nI_ge c (by omega)), if_pos c]
      refine ⟨J, rfl, gf 0 (by decide) (by decide) (by decide), gJ.mono (fun a k hk => mCg_C hk), fun _ => hJ.MR ⟨?_, ?_, ?_, ?_⟩ ?_ ⟨n, E, dK, rK⟩ ?_, fun hc => absurd c hc⟩
      · rw [gf 1 (by decide) (by decide) (by decide)]; exact l1
      · rw [gf 20 (by decide) (by decide) (by decide)]; exact l2
      · rw [gf 22 (by decide) (by decide) (by decide)]; exact l3
      · rw [gf 23 (by decide) (by decide) (by decide)]; exact l4
      · rw [gf 21 (by decide) (by decide) (by decide)]; exact hcl
      · rw [gf 24 (by decide) (by decide) (by decide)]; exact hmg1
    · have hzK : ∀ i, i < 6 → mZ (K.1 (sl.getD i 0)) ∧ mZ (K.1 (ou.getD i 0)) := fun i hi => ⟨by rw [hKs i hi]; exact (hz i hi).1, hKo i hi⟩
      have ok3 : dOK K.1 (sl ++ ou) D := fun e he => by
        obtain ⟨c1, r, c2, c3⟩ := okK e he
        exact ⟨List.mem_append_left _ (List.mem_of_mem_take c1), r, c2, c3⟩
      obtain ⟨J2, e2, hE2, p1, p2, f1, f24, g2⟩ := M_publish (s := s) hP hJ (by rw [gf 1 (by decide) (by decide) (by decide)]; exact l1) dK rK hs ok3 IK ap hbo h6 ht hzK numK (fun i hi => by rw [hKs i (by omega)]; exact hn5 i hi) hin hsl2 hDc
      have g2f : ∀ k, k ≠ 1 → k ≠ 24 → J2 (b + 211) k = J (b + 211) k := fun k x y => g2 _ _ (fun hc => by
        rcases hc with hc | hc | hc | ⟨o, ho, hc⟩
        · omega
        · omega
        · omega
        · unfold mC at hc; omega)
      rw [if_pos (nI_le (by omega) (by omega)), mM_ob, Option.bind_some, e2, Option.bind_some, if_neg c]
      obtain ⟨E2, d2, r2⟩ := hE2
      refine ⟨J2, rfl, by rw [g2f 0 (by decide) (by decide), gf 0 (by decide) (by decide) (by decide)], (gJ.mono (fun a k hk => mCg_C hk)).trans (g2.mono (fun a k hk => mCp_C hk)), fun hc => absurd hc c, fun _ sl' ou' s1 s2 => ⟨⟨f1, ?_, ?_, ?_⟩, ?_, fun i hi => ?_, ⟨n, E2, d2, r2⟩, f24, fun h0 => absurd h0 (Nat.lt_irrefl 0)⟩⟩
      · rw [g2f 20 (by decide) (by decide), gf 20 (by decide) (by decide) (by decide)]; exact l2
      · rw [g2f 22 (by decide) (by decide), gf 22 (by decide) (by decide) (by decide)]; exact l3
      · rw [g2f 23 (by decide) (by decide), gf 23 (by decide) (by decide) (by decide)]; exact l4
      · rw [g2f 21 (by decide) (by decide), gf 21 (by decide) (by decide) (by decide)]; exact hcl
      · by_cases ci : i < K.2.1
        · rw [s1 i ci]
          exact p1 i ci
        · rw [s2 i (by omega) hi]
          exact p2 i (by omega) hi
end
