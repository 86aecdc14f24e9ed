/-! ===== the turns: a file, a byte, spoiling, merging ===== -/
theorem hint_of (x : Int32) : ∃ hh : Bool, (if x = 0 then some (0 : Int32) else some (1 : Int32)) = some (if hh then 1 else 0) := by
  by_cases c : x = 0
  · exact ⟨false, by rw [if_pos c]; rfl⟩
  · exact ⟨true, by rw [if_neg c]; rfl⟩
section
variable {w : aw_W} {b N n : Nat} {sc : Nat → Int32} {i x1 x2 x3 x4 x5 x6 : Int32}
theorem turn10 (h : SIM b N w) (hN : N + 1 < 100000) (hx : scx n sc i x1 x2 x3 x4 x5 x6) : ∃ w', f_L_case10 w (some b) (some (b + 211)) (some (b + 229)) n sc i = some w' ∧ SIM b (N + 1) w' := by
  obtain ⟨s, I, L, ρ, φ, sl, cnt, act, last, time, cl, D, ou, made, taken, af, ar, src, rfl, hK, hM, hP, hW, hl⟩ := h
  obtain ⟨h1, h2, h3, h4, h5, h6⟩ := hx
  unfold f_L_case10
  simp only [h1, h2, Option.bind_some]
  obtain ⟨ap, hm, hz, hnum, hDs⟩ := hW.bits hK (by omega)
  obtain ⟨c6, c0⟩ := hK.c6
  obtain ⟨b1, b2, b3, b4⟩ := hK.bo
  by_cases c : (x2 < 0 ∨ ¬ x2 ≤ 4) ∨ x1 < 0 ∨ cnt ≤ x1.toNatClampNeg
  · rw [L_file_bad hK.1 hK.2.1 c, Option.bind_some]
    dsimp only
    rw [mM_ob, Option.bind_some, M_file_bad hM c6 c, Option.bind_some]
    dsimp only
    rw [mM_ob, Option.bind_some, M_thr, Option.bind_some, uI_at, if_pos rfl, if_neg (by decide)]
    exact ⟨_, rfl, sim_0 hK hM hP hW (by omega) hN 1⟩
  · have n0 : ¬ x2 < 0 := fun hc => c (Or.inl (Or.inl hc))
    have n4 : x2 ≤ 4 := Classical.not_not.mp (fun hc => c (Or.inl (Or.inr hc)))
    obtain ⟨j, hj31, rfl⟩ := nI_of (fun hc => c (Or.inr (Or.inl hc)) : ¬ x1 < 0)
    have hj : j < cnt := by
      apply Classical.byContradiction
      intro hc
      exact c (Or.inr (Or.inr (by rw [nI_clamp hj31]; omega)))
    have hW' := hW
    obtain ⟨q1, q2, q3, q4, ⟨q5, q6, q7⟩, q8, q9, q10⟩ := hW'
    have hK1 := hK.cell hm (nI (pk_file φ D cl (sl.getD j 0) x2)).toInt64
    rw [sL_eq] at hK1
    have hM1 : MR I (uL L (b + 229) 0 (nI (pk_file φ D cl (sl.getD j 0) x2)).toInt64) b φ sl cnt act last time cl D ou made taken af ar src := hM.ext (fun _ _ => rfl) (sL_225 (I, L, ρ) b _)
    rw [L_file_ok hK.1 hK.2.1 hK.2.2.1 hK.2.2.2.1 q5 (fun f hf => b1 f (List.mem_of_mem_take hf)) q1 n0 n4 hj, Option.bind_some]
    dsimp only
    rw [sL_eq, mM_ob, Option.bind_some, M_file_ok hM1 hP c6 q7 hnum (fun i hi => ⟨(hz i (by omega)).1, (q1 _ (b2 i (by omega))).2.2.2.2⟩) (fun e he => by
      obtain ⟨d1, r, d2, d3⟩ := q5 e he
      obtain ⟨j, hj, e1⟩ := hDs e he
      exact ⟨j, r, hj, e1, d2, d3⟩) n0 n4 hj, Option.bind_some]
    dsimp only
    rw [mM_ob, Option.bind_some, M_thr, Option.bind_some, uI_at, if_pos rfl, if_pos rfl, aL_gT, Option.bind_some, if_pos ((lg_cmp_eq _ _).mpr uL_at)]
    exact ⟨_, rfl, sim_0 hK1 hM1 hP hW (by omega) hN 0⟩
theorem turn11 (h : SIM b N w) (hN : N + 1 < 100000) (hx : scx n sc i x1 x2 x3 x4 x5 x6) : ∃ w', f_L_case11 w (some b) (some (b + 211)) (some (b + 229)) n sc i = some w' ∧ SIM b (N + 1) w' := by
  obtain ⟨s, I, L, ρ, φ, sl, cnt, act, last, time, cl, D, ou, made, taken, af, ar, src, rfl, hK, hM, hP, hW, hl⟩ := h
  obtain ⟨h1, h2, h3, h4, h5, h6⟩ := hx
  unfold f_L_case11
  obtain ⟨hh, e0⟩ := hint_of x3
  simp only [h1, h2, h3, Option.bind_some, e0]
  obtain ⟨ap, hm, hz, hnum, hDs⟩ := hW.bits hK (by omega)
  obtain ⟨c6, c0⟩ := hK.c6
  obtain ⟨a1, a2⟩ := L_octet (s := s) hK.1 hK.2.1 hK.2.2.2.1 x1 x2 hh
  by_cases c : pk_byte φ sl cnt x1 x2 hh
  · have hK1 := hK.cell hm (nI ((pk_row (φ (sl.getD x1.toNatClampNeg 0)) hh).getD x2.toNatClampNeg 0)).toInt64
    rw [sL_eq] at hK1
    have hM1 : MR I (uL L (b + 229) 0 (nI ((pk_row (φ (sl.getD x1.toNatClampNeg 0)) hh).getD x2.toNatClampNeg 0)).toInt64) b φ sl cnt act last time cl D ou made taken af ar src := hM.ext (fun _ _ => rfl) (sL_225 (I, L, ρ) b _)
    rw [a1 c, Option.bind_some]
    dsimp only
    rw [sL_eq, mM_ob, Option.bind_some, (M_octet (s := s) hM1 hP c6 (fun i hi => (hz i (by omega)).1) x1 x2 hh).1 c, Option.bind_some]
    dsimp only
    rw [mM_ob, Option.bind_some, M_thr, Option.bind_some, uI_at, if_pos rfl, if_pos rfl, aL_gT, Option.bind_some, if_pos ((lg_cmp_eq _ _).mpr uL_at)]
    exact ⟨_, rfl, sim_0 hK1 hM1 hP hW (by omega) hN 0⟩
  · rw [a2 c, Option.bind_some]
    dsimp only
    rw [mM_ob, Option.bind_some, (M_octet (s := none) hM hP c6 (fun i hi => (hz i (by omega)).1) x1 x2 hh).2 c, Option.bind_some]
    dsimp only
    rw [mM_ob, Option.bind_some, M_thr, Option.bind_some, uI_at, if_pos rfl, if_neg (by decide)]
    exact ⟨_, rfl, sim_0 hK hM hP hW (by omega) hN 1⟩
theorem turn12 (h : SIM b N w) (hN : N + 1 < 100000) (hx : scx n sc i x1 x2 x3 x4 x5 x6) : ∃ w', f_L_case12 w (some b) (some (b + 211)) (some (b + 229)) n sc i = some w' ∧ SIM b (N + 1) w' := by
  obtain ⟨s, I, L, ρ, φ, sl, cnt, act, last, time, cl, D, ou, made, taken, af, ar, src, rfl, hK, hM, hP, hW, hl⟩ := h
  obtain ⟨h1, h2, h3, h4, h5, h6⟩ := hx
  unfold f_L_case12
  obtain ⟨hh, e0⟩ := hint_of x3
  simp only [h1, h2, h3, h4, Option.bind_some, e0]
  obtain ⟨ap, hm, hz, hnum, hDs⟩ := hW.bits hK (by omega)
  obtain ⟨c6, c0⟩ := hK.c6
  obtain ⟨b1, b2, b3, b4⟩ := hK.bo
  obtain ⟨a1, a2⟩ := L_spoil (s := s) hK.1 hK.2.1 hK.2.2.2.1 hW.1 x1 x2 hh x4
  by_cases c : pk_byte φ sl cnt x1 x2 hh
  · obtain ⟨⟨I1, L1, ρ1⟩, e1, F1, g1⟩ := a1 c
    have hj : x1.toNatClampNeg < cnt := by
      have := c.1
      apply Classical.byContradiction
      intro hc
      exact this (Or.inr (by omega))
    have hB := b2 x1.toNatClampNeg (by omega)
    have hin : ∀ a, (a = sl.getD x1.toNatClampNeg 0 + 2 ∨ a = sl.getD x1.toNatClampNeg 0 + 4) → pw_in (sl.getD x1.toNatClampNeg 0) a := fun a ha => by unfold pw_in; omega
    have gC : pw_fr (I, L, ρ) (I1, L1, ρ1) (pw_inC b) := g1.mono (fun a ha => by
      have := hB.at (hin a ha)
      unfold pw_inC
      omega)
    have K1 : KR (I1, L1, ρ1) b (pu φ (sl.getD x1.toNatClampNeg 0) (pt_spoil (φ (sl.getD x1.toNatClampNeg 0)) hh x2.toNatClampNeg x4)) sl cnt act last time cl D ou made taken af ar src := by
      obtain ⟨hA, hS, hE, hF, hG, hX⟩ := hK
      have no : ∀ a, a < b + 3 ∨ (b + 105 ≤ a ∧ a < b + 109) ∨ b + 211 ≤ a → ¬ (a = sl.getD x1.toNatClampNeg 0 + 2 ∨ a = sl.getD x1.toNatClampNeg 0 + 4) := fun a ha hc => hB.ne ha (hin a hc)
      refine ⟨hA.fr g1 (no _ (by omega)), hS.fr g1 (no _ (by omega)) (no _ (by omega)), hE.fr g1 (no _ (by omega)) (no _ (by omega)), F1, hG.fr g1 (no _ (by omega)) (no _ (by omega)), fun ht => (hX ht).keep (hm ht) hF b3 g1 (fun o a ho ha hc => pw_sl_ou ap b1 b3 (b4 x1.toNatClampNeg (by omega)) ho ha (hin a hc)) (fun o ho => pu_ne (fun hc => ap.2.2.2.2 x1.toNatClampNeg o (by omega) ho hc.symm))⟩
    have hM1 : MR I1 L1 b φ sl cnt act last time cl D ou made taken af ar src := hM.cls gC
    have hP1 : mP b ρ1 := hP.cls gC
    obtain ⟨I2, e2, z2, M2, g2⟩ := (M_spoil (s := s) hM1 hP1 ap c6 hm hz (fun i hi => ⟨(hW.1 _ (b2 i (by omega))).1, (hW.1 _ (b2 i (by omega))).2.1⟩) x1 x2 hh x4).1 c
    rw [e1, Option.bind_some]
    dsimp only
    rw [mM_ob, Option.bind_some, e2, Option.bind_some, mM_ob, Option.bind_some, M_thr, Option.bind_some, z2, if_pos rfl]
    exact ⟨_, rfl, sim_of K1 M2 hP1 (hW.spoilt hK (by omega) hj hh _ x4) (by omega) hN g2 (fun _ _ => rfl)⟩
  · rw [a2 c, Option.bind_some]
    dsimp only
    rw [mM_ob, Option.bind_some, (M_spoil (s := none) hM hP ap c6 hm hz (fun i hi => ⟨(hW.1 _ (b2 i (by omega))).1, (hW.1 _ (b2 i (by omega))).2.1⟩) x1 x2 hh x4).2 c, Option.bind_some, mM_ob, Option.bind_some, M_thr, Option.bind_some, uI_at, if_pos rfl]
    exact ⟨_, rfl, sim_0 hK hM hP hW (by omega) hN 1⟩
end
section
variable {w : aw_W} {I I2 : mN} {L L1 : mL} {ρ ρ1 : mQ} {s : Option Nat} {b N n T : Nat} {φ : Nat → qf} {sl : List Nat} {cnt : Nat} {act : Bool} {last time : Nat} {D : List (Nat × Nat × Nat)} {ou : List Nat} {made taken af ar : Nat} {src : Nat → Nat → Nat × Nat} {M K : qM} {sc : Nat → Int32} {i x1 x2 x3 x4 x5 x6 : Int32}
theorem mI_begin (h : KW b φ sl cnt act last time false D ou made taken af ar src) (hz : ∀ f, isB b f → (φ f).2.1.length ≤ 100) (hT : T ≤ cnt) : mI b sl ou D T (φ, 0, 0, 0, src) := by
  obtain ⟨k1, k2, k3, k4, ⟨k5, k6, k7⟩, k8, k9, k10⟩ := h
  refine ⟨fun f hf => ⟨k1 f hf, hz f hf⟩, fun i hi => k4 rfl i (by omega), fun o ho => absurd ho (Nat.not_lt_zero _), Nat.zero_le _, Nat.zero_le _, Nat.zero_le _, fun hc => absurd hc (by dsimp only; omega), fun o j ho => absurd ho (Nat.not_lt_zero _), fun e he i hi hie hb => ?_, fun o j o' j' ho => absurd ho (Nat.not_lt_zero _)⟩
  unfold pk_bf at hb
  dsimp only at hb
  omega
theorem merge_end {I1 : mN} {x : Int64} (hK : KR (I, L, ρ) b φ sl cnt act last time false D ou made taken af ar src) (hP : mP b ρ) (hW : KW b φ sl cnt act last time false D ou made taken af ar src) (hl : last ≤ N) (hN : N < 100000) (hφ : M.1 = φ) (hT : T ≤ if act then cnt - 1 else cnt) (lm : LmP (I, L, ρ) (I1, L1, ρ1) b time sl ou cnt act last D T M K) (hlt : K.2.2.1 < T → K.2.2.2.1 < pk_cs K.1 sl K.2.2.1) (mm : MmP I1 I2 (uL L1 (b + 229) 0 x) b time sl ou cnt act last D T K) : SIM b N (s, pw_lay (pw_σ b) (I2, uL L1 (b + 229) 0 x, ρ1)) := by
  obtain ⟨c6, c0⟩ := hK.c6
  obtain ⟨b1, b2, b3, b4⟩ := hK.bo
  have ap := hW.2.1
  obtain ⟨g1, hA1, mi, hs, l1, l2⟩ := lm
  obtain ⟨m0, g2, m1, m2⟩ := mm
  have hTc : T ≤ cnt := by split at hT <;> omega
  have hm6 : K.2.1 ≤ 6 := by have := mi.2.2.2.2.1; omega
  rw [hφ] at hs
  have hP1 : mP b ρ1 := hP.cls g1
  have hin : ∀ o, o < 6 → ou.getD o 0 ∈ sl ++ ou := fun o ho => List.mem_append_right _ (kG_getD hK.2.2.2.2.1 ho).2.1
  by_cases c : K.2.2.1 < T
  · obtain ⟨kS1, kE1, kF1, kG1, kX1⟩ := l1 c
    have K1 : KR (I1, L1, ρ1) b K.1 sl cnt act last time false D ou K.2.1 T K.2.2.1 K.2.2.2.1 K.2.2.2.2 := ⟨hA1, kS1, kE1, kF1, kG1, fun _ => kX1⟩
    have K2 := K1.cell (fun _ => hm6) x
    rw [sL_eq] at K2
    exact sim_of K2 (m1 c) hP1 (hW.going c6 hT mi hs c (hlt c)) hl hN g2 (fun _ _ => rfl)
  · obtain ⟨sl', ou', kS1, kE1, kF1, kG1, d1, d2, d3, ap', s1, s2⟩ := l2 c
    have K1 : KR (I1, L1, ρ1) b (φx K.1 sl ou K.2.1) sl' (cnt - (T - K.2.1)) act last time false (Dx K.1 ou K.2.2.2.2 D K.2.1) ou' K.2.1 0 K.2.2.1 K.2.2.2.1 K.2.2.2.2 := ⟨hA1, kS1, kE1, kF1, kG1, fun h => absurd h (Nat.lt_irrefl 0)⟩
    have K2 := K1.cell (fun _ => hm6) x
    rw [sL_eq] at K2
    exact sim_of K2 (m2 c sl' ou' s1 s2) hP1 (hW.published c6 c0 b3 hin hT mi hs c d1 d2 d3 ap' s1 s2) hl hN g2 (fun _ _ => rfl)
theorem turn8 (h : SIM b N w) (hN : N + 1 < 100000) (hx : scx n sc i x1 x2 x3 x4 x5 x6) : ∃ w', f_L_case8 w (some b) (some (b + 211)) (some (b + 229)) n sc i = some w' ∧ SIM b (N + 1) w' := by
  obtain ⟨s, I, L, ρ, φ, sl, cnt, act, last, time, cl, D, ou, made, taken, af, ar, src, rfl, hK, hM, hP, hW, hl⟩ := h
  obtain ⟨h1, h2, h3, h4, h5, h6⟩ := hx
  unfold f_L_case8
  simp only [h1, Option.bind_some]
  obtain ⟨ap, hm, hz, hnum, hDs⟩ := hW.bits hK (by omega)
  obtain ⟨c6, c0⟩ := hK.c6
  obtain ⟨b1, b2, b3, b4⟩ := hK.bo
  by_cases c : x1 < 1 ∨ ¬ x1 ≤ 20
  · rw [L_merge_bad c, Option.bind_some]
    dsimp only
    rw [mM_ob, Option.bind_some, M_merge_bad hM c0 c, Option.bind_some]
    dsimp only
    rw [mM_ob, Option.bind_some, M_thr, Option.bind_some, uI_at, if_pos rfl, if_neg (by decide)]
    exact ⟨_, rfl, sim_0 hK hM hP hW (by omega) hN 1⟩
  · obtain ⟨k, k1, k20, rfl⟩ := rg_nat (p := x1) (lo := 1) (hi := 20) (fun hc => c (Or.inl hc)) (Classical.not_not.mp (fun hc => c (Or.inr hc))) (by decide) (by decide)
    cases cl with
    | true =>
      rw [L_merge_cl hK.1 k1 k20, Option.bind_some]
      dsimp only
      rw [mM_ob, Option.bind_some, M_merge_cl hM c0 k1 k20, Option.bind_some]
      dsimp only
      rw [mM_ob, Option.bind_some, M_thr, Option.bind_some, uI_at, if_pos rfl, if_neg (by decide)]
      exact ⟨_, rfl, sim_0 hK hM hP hW (by omega) hN 2⟩
    | false =>
      have hW' := hW
      obtain ⟨q1, q2, q3, q4, ⟨q5, q6, q7⟩, q8, q9, q10⟩ := hW'
      have hn5 : ∀ i, i < cnt → (φ (sl.getD i 0)).1 < 100000 := fun i hi => by have := (q8 i hi).1; omega
      -- both have gone their steps
      have fin : ∀ {T : Nat} {M0 : qM}, M0.1 = φ → T ≤ (if act then cnt - 1 else cnt) → (∃ μ', f_L_merge (s, pw_lay (pw_σ b) (I, L, ρ)) (some b) (nI k) (some (b + 229)) = some (0, (s, pw_lay (pw_σ b) (pw_sL μ' (b + 229) 0 (if (pk_adv sl ou D T k M0).2.2.1 < T then 0 else 1)))) ∧ LmP (I, L, ρ) μ' b time sl ou cnt act last D T M0 (pk_adv sl ou D T k M0)) → (∀ I1 L1 ρ1, MR I1 L1 b φ sl cnt act last time false D ou made taken af ar src → mP b ρ1 → ∃ I', f_M_merge (s, pw_lay (pw_σ b) (I1, L1, ρ1)) (some (b + 211)) (nI k) = some (if (pk_adv sl ou D T k M0).2.2.1 < T then 0 else 1, (s, pw_lay (pw_σ b) (I', L1, ρ1))) ∧ MmP I1 I' L1 b time sl ou cnt act last D T (pk_adv sl ou D T k M0)) → ∃ w', ((f_L_merge (s, pw_lay (pw_σ b) (I, L, ρ)) (some b) (nI k) (some (b + 229))).bind fun v2 => (aw_obj v2.2 (some (b + 211)) 7).bind fun _ => (f_M_merge v2.2 (some (b + 211)) (nI k)).bind fun v5 => (aw_obj v5.2 (some (b + 211)) 7).bind fun _ => (f_M_thrown v5.2 (some (b + 211))).bind fun v7 => if v7 = v2.1 then if v2.1 = 0 then (aw_aL v5.2 (some (b + 229)) 2 (0 : Int32)).bind fun v8 => (if v5.1 = 0 then some (0 : Int64) else some (1 : Int64) : Option Int64).bind fun j9 => if lg_cmp v8 j9 = 0 then some v5.2 else none else some v5.2 else none) = some w' ∧ SIM b (N + 1) w' := by
        intro T M0 hφ hT hLm hMm
        obtain ⟨⟨I1, L1, ρ1⟩, e1, lm⟩ := hLm
        have hlt := pk_adv_lt sl ou D T k M0
        have hM1 : MR I1 L1 b φ sl cnt act last time false D ou made taken af ar src := hM.cls lm.1
        have hP1 : mP b ρ1 := hP.cls lm.1
        generalize hKK : pk_adv sl ou D T k M0 = K at *
        obtain ⟨I2, e2, mm⟩ := hMm I1 (uL L1 (b + 229) 0 (if K.2.2.1 < T then 0 else 1)) ρ1 (hM1.ext (fun _ _ => rfl) (sL_225 (I1, L1, ρ1) b _)) hP1
        have z2 := mm.1
        rw [e1, Option.bind_some]
        dsimp only
        rw [sL_eq, mM_ob, Option.bind_some, e2, Option.bind_some]
        dsimp only
        rw [mM_ob, Option.bind_some, M_thr, Option.bind_some, z2, if_pos rfl, if_pos rfl, aL_gT, Option.bind_some, uL_at]
        refine ⟨_, ?_, merge_end (s := s) hK hP hW (by omega) hN hφ hT lm hlt mm⟩
        by_cases cc : K.2.2.1 < T
        · rw [if_pos cc, if_pos cc, if_pos rfl, Option.bind_some, if_pos ((lg_cmp_eq _ _).mpr rfl)]
        · rw [if_neg cc, if_neg cc, if_neg (by decide), Option.bind_some, if_pos ((lg_cmp_eq _ _).mpr rfl)]
      by_cases ht : 0 < taken
      · obtain ⟨-, t2, t3, t4, t5⟩ := q10 ht
        have h11 : pk_cs φ sl af ≤ 11 := (hz af (by split at t2 <;> omega)).1.2.2
        have htc : taken ≤ cnt := by split at t2 <;> omega
        refine fin (T := taken) (M0 := (φ, made, af, ar, src)) rfl t2 (L_merge_on (s := s) (M := (φ, made, af, ar, src)) hK.1 ⟨hK.2.1, hK.2.2.1, hK.2.2.2.1, hK.2.2.2.2.1, hK.2.2.2.2.2 ht⟩ ht t3 ap htc (fun h => by rw [if_pos h] at t2; exact t2) q7 q6 q5 (by dsimp only; omega) k1 k20) (fun I1 L1 ρ1 hM1 hP1 => M_merge_on (s := s) (M := (φ, made, af, ar, src)) hP1 hM1 c0 ht (pk_skM_id (fun _ => t5) (by dsimp only; omega)) q7 hnum hn5 q5 t3 ap b3 b2 c6 htc hz k1 k20)
      · have ht0 : taken = 0 := by omega
        subst ht0
        by_cases hc0 : (if act then cnt - 1 else cnt) = 0
        · rw [L_merge_no hK.1 hK.2.1 hK.2.2.2.2.1 k1 k20 hc0, Option.bind_some]
          dsimp only
          rw [mM_ob, Option.bind_some, M_merge_no hM c0 hc0 k1 k20, Option.bind_some]
          dsimp only
          rw [mM_ob, Option.bind_some, M_thr, Option.bind_some, uI_at, if_pos rfl, if_neg (by decide)]
          exact ⟨_, rfl, sim_0 hK hM hP hW (by omega) hN 2⟩
        · have hTc : (if act then cnt - 1 else cnt) ≤ cnt := by split <;> omega
          have mb := mI_begin hW (fun f hf => (hK.Z hf).1) hTc
          exact fin (T := if act then cnt - 1 else cnt) (M0 := (φ, 0, 0, 0, src)) rfl (Nat.le_refl _) (L_merge_new (s := s) hK.1 hK.2.1 hK.2.2.1 hK.2.2.2.1 hK.2.2.2.2.1 src rfl (by omega) mb ap q7 q6 q5 k1 k20) (fun I1 L1 ρ1 hM1 hP1 => M_merge_new (s := s) hP1 hM1 c0 rfl (by omega) q7 hnum hn5 q5 mb ap b3 b2 c6 hz k1 k20)
end
