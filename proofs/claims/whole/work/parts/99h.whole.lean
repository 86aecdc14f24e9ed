/-! ===== the reference's merge goes its steps ===== -/
section
variable {I I' : mN} {L L' : mL} {ρ : mQ} {s : Option Nat} {b n : Nat} {E : qE} {φ φ' : Nat → qf} {sl fs : List Nat} {cnt : Nat} {D : List (Nat × Nat × Nat)} {ou : List Nat} {taken : Nat}
theorem pk_step_num (M : qM) (f : Nat) (hf : ∀ o, o < 6 → f ≠ ou.getD o 0) (hm : M.2.1 ≤ 5 ∨ (0 < M.2.1 ∧ M.2.1 ≤ 6 ∧ (M.1 (ou.getD (M.2.1 - 1) 0)).2.1.length + pn_len (pk_r M.1 sl M.2.2.1 M.2.2.2.1).2.1 (pk_r M.1 sl M.2.2.1 M.2.2.2.1).2.2.2 ≤ 100)) : (pk_step sl ou D M).1 f = M.1 f := by
  unfold pk_step
  split
  · unfold pk_cp
    split
    · next h => exact pu_ne (hf _ (by omega))
    · next h =>
      refine pu_ne (hf _ ?_)
      rcases hm with hm | hm
      · omega
      · exact absurd ⟨hm.1, hm.2.2⟩ h
  · rfl
theorem M_next (hP : mP b ρ) {M : qM} (h : mrM I b sl ou cnt taken M) (hd : mDir I L b n E) (hr : dR (fun f => (M.1 f).1) n E D) (hs : dS D) (hnum : pk_nums M.1 sl cnt) (ok : ∀ e ∈ D, ∃ j r, j < cnt ∧ e.2.1 = sl.getD j 0 ∧ (M.1 e.2.1).2.2.2.2[e.2.2]? = some r ∧ e.1 = pn_rank r.2.1 r.2.2.1) (hI : mI b sl ou D taken M) (ap : pk_ap sl ou) (hbo : ∀ o, o < 6 → isB b (ou.getD o 0)) (hbs : ∀ i, i < 6 → isB b (sl.getD i 0)) (h6 : cnt ≤ 6) (ht : taken ≤ cnt) (hz : ∀ i, i < 6 → mZ (M.1 (sl.getD i 0)) ∧ mZ (M.1 (ou.getD i 0))) (haf : M.2.2.1 < taken) (har : M.2.2.2.1 < pk_cs M.1 sl M.2.2.1) :
    ∃ I', f_M_comeToNext (s, pw_lay (pw_σ b) (I, L, ρ)) (some (b + 211)) = some (s, pw_lay (pw_σ b) (I', L, ρ)) ∧ mrM I' b sl ou cnt taken (pk_skM sl taken (pk_step sl ou D M)) ∧ mfr I I' (mCg b) := by
  have h' := h
  obtain ⟨q1, q2, q3, q4, q5, q6⟩ := h'
  obtain ⟨h1, h2, h3, h4, h5, h6', h7, hI_src, -⟩ := hI
  have hrat := pk_r_at har
  have har' : M.2.2.2.1 < (M.1 (sl.getD M.2.2.1 0)).2.2.2.2.length := har
  have hfit := (h2 _ haf).fits hrat
  have hplace := (h2 _ haf).place hrat
  have h100 := (h1 _ (hbs M.2.2.1 (by omega))).2
  have hrV : rV (pk_r M.1 sl M.2.2.1 M.2.2.2.1) := ((h1 _ (hbs _ (by omega))).1.2.2.2.2) _ (List.mem_of_getElem? hrat)
  have hlen := pn_len_le hrV.2.1 hrV.2.2.2.1
  have hge := pn_len_ge (pk_r M.1 sl M.2.2.1 M.2.2.2.1).2.1 (pk_r M.1 sl M.2.2.1 M.2.2.2.1).2.2.2
  obtain ⟨n1, w1⟩ := q1 M.2.2.1 (by omega)
  have hz1 := (hz M.2.2.1 (by omega)).1
  have hl11 := hz1.2.2
  have hnm := (hnum M.2.2.1 (by omega)).1
  obtain ⟨lv1, lv2⟩ := hr.live hs hnum ok (i := M.2.2.1) (by omega) hrat
  -- the end of a step
  have fin : ∀ (J : mN) (X : qM), mrM J b sl ou cnt taken (X.1, X.2.1, M.2.2.1, M.2.2.2.1, X.2.2.2.2) → mfr I J (mCg b) → (∀ i, i < 6 → X.1 (sl.getD i 0) = M.1 (sl.getD i 0)) → X.2.2.1 = M.2.2.1 → X.2.2.2.1 = M.2.2.2.1 + 1 → ∃ I', ((aw_gI (s, pw_lay (pw_σ b) (J, L, ρ)) (some (b + 211)) 7 27).bind fun v61 => (aw_pV (s, pw_lay (pw_σ b) (J, L, ρ)) (some (b + 211)) 7 27 (.int (v61 + (1 : Int32)))).bind fun v62 => (aw_obj v62 (some (b + 211)) 7).bind fun v63 => (f_M_skip v62 (some (b + 211))).bind fun v64 => some v64) = some (s, pw_lay (pw_σ b) (I', L, ρ)) ∧ mrM I' b sl ou cnt taken (pk_skM sl taken X) ∧ mfr I I' (mCg b) := by
    intro J X hJ gJ hX e1 e2
    obtain ⟨y1, y2, y3, y4, y5, y6⟩ := hJ
    dsimp only at y3 y4 y5
    have hX1 : mrM (uI J (b + 211) 27 (nI (M.2.2.2.1 + 1))) b sl ou cnt taken X := by
      refine ⟨y1.fld _ _, ?_, ?_, ?_, ?_, y6.fld _ _⟩
      · rw [uI_ne (by omega)]; exact y2
      · rw [uI_ne (by omega), e1]; exact y3
      · rw [uI_at, e2]
      · rw [uI_ne (by omega)]; exact y5
    obtain ⟨I2, z1, z2, z3⟩ := M_skip (s := s) (L := L) hP hX1 h6 ht (by rw [e1]; omega) (fun i hi => by rw [hX i (by omega)]; exact (hz i (by omega)).1) (fun _ => by
      rw [e1, e2]
      show M.2.2.2.1 + 1 ≤ (X.1 (sl.getD M.2.2.1 0)).2.2.2.2.length
      rw [hX _ (by omega)]
      omega)
    rw [mf_27, Option.bind_some, y4, nI_1, mw_27, Option.bind_some, mM_ob, Option.bind_some, z1]
    exact ⟨I2, rfl, z2, (gJ.trans (mfr.uI (Or.inl ⟨rfl, by omega⟩))).trans (z3.mono (fun a k hk => Or.inl ⟨hk.1, by omega⟩))⟩
  unfold f_M_comeToNext
  rw [mg_2 hP, Option.bind_some, mf_26, Option.bind_some, q3, ma_212 (by omega), Option.bind_some, n1, mf_27, Option.bind_some, q4, mM_ob, Option.bind_some]
  unfold pk_step
  by_cases hl : pe_find (pn_rank (pk_r M.1 sl M.2.2.1 M.2.2.2.1).2.1 (pk_r M.1 sl M.2.2.1 M.2.2.2.1).2.2.1) D = some (sl.getD M.2.2.1 0, M.2.2.2.1)
  · obtain ⟨j, hj, x1, x2, x3⟩ := lv1 hl
    have hd66 := hd.2.1
    rw [if_pos hl, M_live_at hP hd hj x1 x2 x3, Option.bind_some, if_neg (nI_pos (by omega)), Option.bind_some, Option.bind_some, Option.bind_some, M_len hP w1 (by omega) hrat (by omega) (by have := hrV.2.2.2.1; omega), Option.bind_some, mf_28, Option.bind_some, q5]
    have hmade : M.2.1 ≤ 6 := by omega
    unfold pk_cp
    by_cases hf : 0 < M.2.1 ∧ (M.1 (ou.getD (M.2.1 - 1) 0)).2.1.length + pn_len (pk_r M.1 sl M.2.2.1 M.2.2.2.1).2.1 (pk_r M.1 sl M.2.2.1 M.2.2.2.1).2.2.2 ≤ 100
    · have hoc := (h3 (M.2.1 - 1) (by omega)).1
      have hl9 := hoc.len ((h1 _ (hbo _ (by omega))).1.2.2.2.2)
      have hwo := (q6 (M.2.1 - 1) (by omega)).1
      have e5 : (5 : Int32) + nI M.2.1 = nI (6 + (M.2.1 - 1)) := by rw [show (5 : Int32) = nI 5 from rfl, nI_add]; congr 1; omega
      have hk1 := hrV.1
      obtain ⟨J, y1, y2, y3⟩ := M_copyTo (s := s) (L := L) hP (made := M.2.1) (af := M.2.2.1) (ar := M.2.2.2.1) (src := M.2.2.2.2) h ap h6 hz (by omega) hrat (o := M.2.1 - 1) (by omega) (by omega) (by omega) hfit hf.2
      rw [if_pos hf, if_neg (fun hc => by have := (nI_eq (b := 0) (by omega) (by decide)).mp hc; omega), mg_3 hP, Option.bind_some, Option.bind_some, e5, ma_213 (by omega), Option.bind_some, hwo.1, nI_add, if_pos (show nI _ ≤ (100 : Int32) from nI_le (b := 100) hf.2 (by decide)), Option.bind_some]
      rw [y1, Option.bind_some]
      exact fin J (_, _, _, _, _) y2 (y3.mono (fun a k hk => Or.inr ⟨M.2.1 - 1, by omega, hk⟩)) (fun i hi => pu_ne (ap.2.2.2.2 i _ hi (by omega))) rfl rfl
    · have hle : M.2.1 ≤ M.2.2.1 := by
        apply Classical.byContradiction
        intro hc
        have e : M.2.1 = M.2.2.1 + 1 := by omega
        have := h7 e
        refine hf ⟨by omega, ?_⟩
        omega
      have ho5 : M.2.1 < 6 := by omega
      have e6 : (6 : Int32) + nI M.2.1 = nI (6 + M.2.1) := by rw [show (6 : Int32) = nI 6 from rfl, nI_add]
      obtain ⟨J, y1, y2, y3⟩ := M_clearRow (s := s) (L := L) (I := I) hP (i := 6 + M.2.1) (by omega) 0
      have y3' : mfr I J (fun a k => mC b (6 + M.2.1) a k ∧ a ≠ b + 212) := y3.mono (fun a c hc => by unfold mC; omega)
      have fJ : ∀ c, J (b + 211) c = I (b + 211) c := fun c => y3 _ _ (fun hc => by omega)
      have hpu : ∀ i, i < 6 → pu M.1 (ou.getD M.2.1 0) qf0 (sl.getD i 0) = M.1 (sl.getD i 0) := fun i hi => pu_ne (ap.2.2.2.2 i _ hi ho5)
      have hpo : pu M.1 (ou.getD M.2.1 0) qf0 (ou.getD M.2.1 0) = qf0 := pu_at
      have hnum0 : ∀ f, (∀ o, o < 6 → f ≠ ou.getD o 0) → (pu M.1 (ou.getD M.2.1 0) qf0 f).1 = (M.1 f).1 := fun f hf => by rw [pu_ne (hf _ ho5)]
      -- the merge with a new output
      have hJ : mrM (uI J (b + 211) 28 (nI (M.2.1 + 1))) b sl ou cnt taken (pu M.1 (ou.getD M.2.1 0) qf0, M.2.1 + 1, M.2.2.1, M.2.2.2.1, M.2.2.2.2) := by
        refine ⟨fun i hi => ?_, ?_, ?_, ?_, uI_at, fun o' ho' => ?_⟩
        · obtain ⟨u1, u2⟩ := q1 i hi
          dsimp only
          rw [hpu i (by omega)]
          exact ⟨by rw [uI_ne (by omega), y3' _ _ (fun hc => hc.2 rfl)]; exact u1, (u2.fr (hz i (by omega)).1 y3' (fun a k hk hc => mC_ne (show i ≠ 6 + M.2.1 by omega) hk hc.1)).fld _ _⟩
        · rw [uI_ne (by omega), fJ]; exact q2
        · rw [uI_ne (by omega), fJ]; exact q3
        · rw [uI_ne (by omega), fJ]; exact q4
        · dsimp only at ho' ⊢
          by_cases c : o' = M.2.1
          · subst c
            rw [hpo]
            exact ⟨y2.fld _ _, fun j hj => absurd hj (Nat.not_lt_zero _)⟩
          · have hne : ou.getD o' 0 ≠ ou.getD M.2.1 0 := fun hc => c (ap.2.2.2.1 o' _ (by omega) ho5 hc)
            obtain ⟨v1, v2⟩ := q6 o' (by omega)
            rw [pu_ne hne]
            have hz3 := (hz o' (by omega)).2
            refine ⟨(v1.fr hz3 y3' (fun a k hk hc => mC_ne (show 6 + o' ≠ 6 + M.2.1 by omega) hk hc.1)).fld _ _, fun j hj => ?_⟩
            obtain ⟨i0, b1, b2, -⟩ := hI_src o' j (by omega) hj
            rw [uI_ne (by omega), uI_ne (by omega), y3 _ _ (fun hc => by omega), y3 _ _ (fun hc => by omega), hnum0 _ (fun o ho hc => ap.2.2.2.2 i0 o (by omega) ho (b2.symm.trans hc))]
            exact v2 j hj
      have hz' : ∀ i, i < 6 → mZ (pu M.1 (ou.getD M.2.1 0) qf0 (sl.getD i 0)) ∧ mZ (pu M.1 (ou.getD M.2.1 0) qf0 (ou.getD i 0)) := fun i hi => by
        refine ⟨by rw [hpu i hi]; exact (hz i hi).1, ?_⟩
        by_cases c : i = M.2.1
        · rw [c, hpo]
          exact ⟨Nat.zero_le _, Nat.zero_le _, Nat.zero_le _⟩
        · rw [pu_ne (fun hc => c (ap.2.2.2.1 i _ hi ho5 hc))]
          exact (hz i hi).2
      obtain ⟨J2, z1, z2, z3⟩ := M_copyTo (s := s) (L := L) hP hJ ap h6 hz' (by omega) (r := pk_r M.1 sl M.2.2.1 M.2.2.2.1) (by rw [hpu _ (by omega)]; exact hrat) (o := M.2.1) ho5 rfl (by rw [hpo]; exact (by decide : 0 < 11)) (by rw [hpu _ (by omega)]; exact hfit) (by rw [hpo]; show 0 + _ ≤ 100; omega)
      rw [hpo, hpu _ (by omega)] at z2
      have epu : pu (pu M.1 (ou.getD M.2.1 0) qf0) (ou.getD M.2.1 0) (pt_cp qf0 (M.1 (sl.getD M.2.2.1 0)) (pk_r M.1 sl M.2.2.1 M.2.2.2.1)) = pu M.1 (ou.getD M.2.1 0) (pt_cp qf0 (M.1 (sl.getD M.2.2.1 0)) (pk_r M.1 sl M.2.2.1 M.2.2.2.1)) := by
        funext g
        unfold pu
        split <;> rfl
      rw [epu] at z2
      have gall : mfr I J2 (mCg b) := ((y3'.mono (fun a k hk => Or.inr ⟨M.2.1, ho5, hk⟩)).trans (mfr.uI (Or.inl ⟨rfl, by omega⟩))).trans (z3.mono (fun a k hk => Or.inr ⟨M.2.1, ho5, hk⟩))
      have last := fin J2 (pu M.1 (ou.getD M.2.1 0) (pt_cp qf0 (M.1 (sl.getD M.2.2.1 0)) (pk_r M.1 sl M.2.2.1 M.2.2.2.1)), M.2.1 + 1, M.2.2.1, M.2.2.2.1 + 1, su M.2.2.2.2 M.2.1 0 (sl.getD M.2.2.1 0, M.2.2.2.1)) z2 gall (fun i hi => pu_ne (ap.2.2.2.2 i _ hi ho5)) rfl rfl
      rw [if_neg hf]
      by_cases c0 : M.2.1 = 0
      · rw [if_pos (by rw [c0]; rfl), Option.bind_some, e6, Option.bind_some, y1, Option.bind_some, mf_28, Option.bind_some, fJ, q5, nI_1, mw_28, Option.bind_some, Option.bind_some, z1, Option.bind_some]
        exact last
      · have hf2 : ¬ (M.1 (ou.getD (M.2.1 - 1) 0)).2.1.length + pn_len (pk_r M.1 sl M.2.2.1 M.2.2.2.1).2.1 (pk_r M.1 sl M.2.2.1 M.2.2.2.1).2.2.2 ≤ 100 := fun hc => hf ⟨by omega, hc⟩
        have hwo := (q6 (M.2.1 - 1) (by omega)).1
        have hzo := (hz (M.2.1 - 1) (by omega)).2.1
        have e5 : (5 : Int32) + nI M.2.1 = nI (6 + (M.2.1 - 1)) := by rw [show (5 : Int32) = nI 5 from rfl, nI_add]; congr 1; omega
        rw [if_neg (fun hc => by have := (nI_eq (b := 0) (by omega) (by decide)).mp hc; omega), mg_3 hP, Option.bind_some, Option.bind_some, e5, ma_213 (by omega), Option.bind_some, hwo.1, nI_add, if_neg (show ¬ nI _ ≤ (100 : Int32) from fun hc => hf2 ((nI_leI (b := 100) (by omega) (by decide)).mp hc)), Option.bind_some, e6, Option.bind_some, y1, Option.bind_some, mf_28, Option.bind_some, fJ, q5, nI_1, mw_28, Option.bind_some, Option.bind_some, z1, Option.bind_some]
        exact last
  · have hd66 := hd.2.1
    rw [if_neg hl, M_live_no hP hd (by omega) (by omega) (lv2 hl), Option.bind_some, if_pos (by decide), Option.bind_some]
    exact fin I (_, _, _, _, _) h mfr.rfl (fun _ _ => rfl) rfl rfl
end
