/-! ===== the turns that answer ===== -/
section
variable {w : aw_W} {b N n : Nat} {sc : Nat → Int32} {i x1 x2 x3 x4 x5 x6 : Int32}
theorem uI_uI {J : mN} {a k : Nat} {x y : Int32} : uI (uI J a k x) a k y = uI J a k y := by
  funext c j
  unfold uI
  split
  · rfl
  · rfl
theorem turn2 (h : SIM b N w) (hN : N + 1 < 100000) (hx : scx n sc i x1 x2 x3 x4 x5 x6) : ∃ w', f_L_case2 w (some b) (some (b + 211)) (some (b + 229)) n sc i = some w' ∧ SIM b (N + 1) w' := by
  obtain ⟨s, I, L, ρ, φ, sl, cnt, act, last, time, cl, D, ou, made, taken, af, ar, src, rfl, hK, hM, hP, hW, hl⟩ := h
  obtain ⟨h1, h2, h3, h4, h5, h6⟩ := hx
  unfold f_L_case2
  simp only [h1, h2, h3, Option.bind_some]
  generalize aj_lshl x1.toInt64 32 ||| x2.toInt64 &&& 4294967295 = key
  by_cases c : x3 < 1 ∨ ¬ x3 ≤ 4
  · rw [L_get_bad c, Option.bind_some]
    dsimp only
    rw [mM_ob, Option.bind_some, M_get_bad c, Option.bind_some]
    dsimp only
    rw [mM_ob, Option.bind_some, M_thr, Option.bind_some, uI_at, if_pos rfl, if_neg (by decide)]
    exact ⟨_, rfl, sim_0 hK hM hP hW (by omega) hN 1⟩
  · obtain ⟨k, k1, k4, rfl⟩ := rg_k c
    cases cl with
    | true =>
      rw [L_get_cl hK.1 k1 k4, Option.bind_some]
      dsimp only
      rw [mM_ob, Option.bind_some, M_get_cl hM k1 k4, Option.bind_some]
      dsimp only
      rw [mM_ob, Option.bind_some, M_thr, Option.bind_some, uI_at, if_pos rfl, if_neg (by decide)]
      exact ⟨_, rfl, sim_0 hK hM hP hW (by omega) hN 2⟩
    | false =>
      obtain ⟨ap, hm, hz, hnum, hDs⟩ := hW.bits hK (by omega)
      obtain ⟨c6, c0⟩ := hK.c6
      obtain ⟨b1, b2, b3, b4⟩ := hK.bo
      have hW' := hW
      obtain ⟨q1, q2, q3, q4, ⟨q5, q6, q7⟩, q8, q9, q10⟩ := hW'
      obtain ⟨a1, a2⟩ := L_get_op (s := s) hK.1 hK.2.2.1 hK.2.2.2.1 q5 (fun f hf => b1 f (List.mem_of_mem_take hf)) q1 (key := key) k1 k4
      have mg := fun {s' : Option Nat} {L' : mL} (hM' : MR I L' b φ sl cnt act last time false D ou made taken af ar src) => M_get_op (s := s') hM' hP c6 q7 hnum (fun i hi => ⟨(hz i (by omega)).1, (q1 _ (b2 i (by omega))).1⟩) (key := key) k1 k4
      cases hq : pe_find (pn_rank k (pn_cut key k)) D with
      | none =>
        rw [a1 hq, Option.bind_some]
        dsimp only
        rw [mM_ob, Option.bind_some, (mg hM).1 hq, Option.bind_some]
        dsimp only
        rw [mM_ob, Option.bind_some, M_thr, Option.bind_some, uI_at, if_pos rfl, if_neg (by decide), uI_uI]
        exact ⟨_, rfl, sim_0 hK hM hP hW (by omega) hN 3⟩
      | some q =>
        have he := pe_find_in hq
        obtain ⟨d1, r, d2, d3⟩ := q5 _ he
        obtain ⟨j, hj, e1⟩ := (pk_take ap.1 c6).mp d1
        dsimp only at d2 d3 e1
        have hB := b2 j (by omega)
        rw [← e1] at hB
        have hrV := (q1 _ hB).2.2.2.2 r (List.mem_of_getElem? d2)
        have hrk : r.2.1 = k := by
          obtain ⟨r1, r4, -⟩ := hrV
          exact ((pn_rank_inj (by omega) (by omega)).mp d3).1.symm
        have hfit := (q4 rfl j hj).fits (n := q.2) (r := r) (by rw [← e1]; exact d2)
        rw [← e1] at hfit
        by_cases hr : pk_right (φ q.1) r
        · have hK1 := hK.cell hm (lN (pk_val (φ q.1) r))
          rw [sL_eq] at hK1
          have hM1 : MR I (uL L (b + 229) 0 (lN (pk_val (φ q.1) r))) b φ sl cnt act last time false D ou made taken af ar src := hM.ext (fun _ _ => rfl) (sL_225 (I, L, ρ) b _)
          rw [(a2 q r hq d2).1 hr, Option.bind_some]
          dsimp only
          rw [sL_eq, mM_ob, Option.bind_some, ((mg hM1).2 q r j hq hj e1 d2 hrk hrV hfit).1 hr, Option.bind_some]
          dsimp only
          rw [mM_ob, Option.bind_some, M_thr, Option.bind_some, uI_at, if_pos rfl, if_pos rfl, aL_gT, Option.bind_some, if_pos ((lg_cmp_eq _ _).mpr uL_at)]
          exact ⟨_, rfl, sim_0 hK1 hM1 hP hW (by omega) hN 0⟩
        · rw [(a2 q r hq d2).2 hr, Option.bind_some]
          dsimp only
          rw [mM_ob, Option.bind_some, ((mg hM).2 q r j hq hj e1 d2 hrk hrV hfit).2 hr, Option.bind_some]
          dsimp only
          rw [mM_ob, Option.bind_some, M_thr, Option.bind_some, uI_at, if_pos rfl, if_neg (by decide), uI_uI]
          exact ⟨_, rfl, sim_0 hK hM hP hW (by omega) hN 4⟩
theorem turn3 (h : SIM b N w) (hN : N + 1 < 100000) : ∃ w', f_L_case3 w (some b) (some (b + 211)) (some (b + 229)) n sc i = some w' ∧ SIM b (N + 1) w' := by
  obtain ⟨s, I, L, ρ, φ, sl, cnt, act, last, time, cl, D, ou, made, taken, af, ar, src, rfl, hK, hM, hP, hW, hl⟩ := h
  unfold f_L_case3
  have hm := (hW.bits hK (by omega)).2.1
  rw [L_keys hK.1 hK.2.2.1, Option.bind_some]
  cases cl with
  | true =>
    rw [if_pos rfl]
    dsimp only
    rw [mM_ob, Option.bind_some, M_keys_ok hM, Option.bind_some, if_pos rfl]
    dsimp only
    rw [mM_ob, Option.bind_some, M_thr, Option.bind_some, uI_at, if_pos rfl, if_neg (by decide)]
    exact ⟨_, rfl, sim_0 hK hM hP hW (by omega) hN 1⟩
  | false =>
    have hK1 := hK.cell hm (nI D.length).toInt64
    rw [sL_eq] at hK1
    have hM1 : MR I (uL L (b + 229) 0 (nI D.length).toInt64) b φ sl cnt act last time false D ou made taken af ar src := hM.ext (fun _ _ => rfl) (sL_225 (I, L, ρ) b _)
    rw [if_neg (by decide)]
    dsimp only
    rw [sL_eq, mM_ob, Option.bind_some, M_keys_ok hM1, Option.bind_some, if_neg (by decide)]
    dsimp only
    rw [mM_ob, Option.bind_some, M_thr, Option.bind_some, uI_at, if_pos rfl, if_pos rfl, aL_gT, Option.bind_some, if_pos ((lg_cmp_eq _ _).mpr uL_at)]
    exact ⟨_, rfl, sim_0 hK1 hM1 hP hW (by omega) hN 0⟩
theorem turn4 (h : SIM b N w) (hN : N + 1 < 100000) (hx : scx n sc i x1 x2 x3 x4 x5 x6) : ∃ w', f_L_case4 w (some b) (some (b + 211)) (some (b + 229)) n sc i = some w' ∧ SIM b (N + 1) w' := by
  obtain ⟨s, I, L, ρ, φ, sl, cnt, act, last, time, cl, D, ou, made, taken, af, ar, src, rfl, hK, hM, hP, hW, hl⟩ := h
  obtain ⟨h1, h2, h3, h4, h5, h6⟩ := hx
  unfold f_L_case4
  simp only [h1, h2, Option.bind_some]
  by_cases c : x2 < 0 ∨ ¬ x2 ≤ 3
  · rw [L_key_bad c, Option.bind_some]
    dsimp only
    rw [mM_ob, Option.bind_some, M_key_bad c, Option.bind_some]
    dsimp only
    rw [mM_ob, Option.bind_some, M_thr, Option.bind_some, uI_at, if_pos rfl, if_neg (by decide)]
    exact ⟨_, rfl, sim_0 hK hM hP hW (by omega) hN 1⟩
  · have n0 : ¬ x2 < 0 := fun hc => c (Or.inl hc)
    have n3 : x2 ≤ 3 := Classical.not_not.mp (fun hc => c (Or.inr hc))
    cases cl with
    | true =>
      rw [L_key_cl hK.1 n0 n3, Option.bind_some]
      dsimp only
      rw [mM_ob, Option.bind_some, M_key_cl hM n0 n3, Option.bind_some]
      dsimp only
      rw [mM_ob, Option.bind_some, M_thr, Option.bind_some, uI_at, if_pos rfl, if_neg (by decide)]
      exact ⟨_, rfl, sim_0 hK hM hP hW (by omega) hN 2⟩
    | false =>
      obtain ⟨ap, hm, hz, hnum, hDs⟩ := hW.bits hK (by omega)
      obtain ⟨c6, c0⟩ := hK.c6
      obtain ⟨b1, b2, b3, b4⟩ := hK.bo
      have hW' := hW
      obtain ⟨q1, q2, q3, q4, ⟨q5, q6, q7⟩, q8, q9, q10⟩ := hW'
      by_cases ck : x1 < 0 ∨ D[x1.toNatClampNeg]? = none
      · rw [L_key_no hK.1 hK.2.2.1 n0 n3 ck, Option.bind_some]
        dsimp only
        rw [mM_ob, Option.bind_some, (M_key_op hM hP c6 q7 hnum n0 n3).1 ck, Option.bind_some]
        dsimp only
        rw [mM_ob, Option.bind_some, M_thr, Option.bind_some, uI_at, if_pos rfl, if_neg (by decide)]
        exact ⟨_, rfl, sim_0 hK hM hP hW (by omega) hN 3⟩
      · have ck0 : ¬ x1 < 0 := fun hc => ck (Or.inl hc)
        obtain ⟨e, he⟩ : ∃ e, D[x1.toNatClampNeg]? = some e := by
          cases h9 : D[x1.toNatClampNeg]? with
          | none => exact absurd (Or.inr h9) ck
          | some e => exact ⟨e, rfl⟩
        have heD := List.mem_of_getElem? he
        obtain ⟨d1, r, d2, d3⟩ := q5 e heD
        obtain ⟨j, hj, e1⟩ := (pk_take ap.1 c6).mp d1
        have hB := b2 j (by omega)
        rw [← e1] at hB
        have hrV := (q1 _ hB).2.2.2.2 r (List.mem_of_getElem? d2)
        have h11 := (hK.Z hB).2.2
        have hlt := (List.getElem?_eq_some_iff.mp d2).1
        have hK1 := hK.cell hm (pk_key φ e x2)
        rw [sL_eq] at hK1
        have hM1 : MR I (uL L (b + 229) 0 (pk_key φ e x2)) b φ sl cnt act last time false D ou made taken af ar src := hM.ext (fun _ _ => rfl) (sL_225 (I, L, ρ) b _)
        rw [L_key_ok hK.1 hK.2.2.1 hK.2.2.2.1 q5 (fun f hf => b1 f (List.mem_of_mem_take hf)) q1 n0 n3 ck0 he, Option.bind_some]
        dsimp only
        rw [sL_eq, mM_ob, Option.bind_some, (M_key_op hM1 hP c6 q7 hnum n0 n3).2 e r j ck0 he hj e1 d2 d3 hrV (by omega), Option.bind_some]
        dsimp only
        rw [mM_ob, Option.bind_some, M_thr, Option.bind_some, uI_at, if_pos rfl, if_pos rfl, aL_gT, Option.bind_some, if_pos ((lg_cmp_eq _ _).mpr uL_at)]
        exact ⟨_, rfl, sim_0 hK1 hM1 hP hW (by omega) hN 0⟩
theorem turn5 (h : SIM b N w) (hN : N + 1 < 100000) : ∃ w', f_L_case5 w (some b) (some (b + 211)) (some (b + 229)) n sc i = some w' ∧ SIM b (N + 1) w' := by
  obtain ⟨s, I, L, ρ, φ, sl, cnt, act, last, time, cl, D, ou, made, taken, af, ar, src, rfl, hK, hM, hP, hW, hl⟩ := h
  unfold f_L_case5
  cases cl with
  | true =>
    rw [L_sync_cl hK.1, Option.bind_some]
    dsimp only
    rw [mM_ob, Option.bind_some, M_sync_cl hM, Option.bind_some, mM_ob, Option.bind_some, M_thr, Option.bind_some, uI_at, if_pos rfl]
    exact ⟨_, rfl, sim_0 hK hM hP hW (by omega) hN 1⟩
  | false =>
    obtain ⟨ap, hm, hz, hnum, hDs⟩ := hW.bits hK (by omega)
    obtain ⟨c6, c0⟩ := hK.c6
    obtain ⟨⟨I1, L1, ρ1⟩, e1, K1, g1⟩ := L_sync_ok (s := s) hK ap hm
    have hM1 : MR I1 L1 b φ sl cnt act last time false D ou made taken af ar src := hM.cls g1
    have hP1 : mP b ρ1 := hP.cls g1
    obtain ⟨I2, e2, z2, M2, g2⟩ := M_sync_ok (s := s) hM1 hP1 ap c6 c0 hm hz
    rw [e1, Option.bind_some]
    dsimp only
    rw [mM_ob, Option.bind_some, e2, Option.bind_some, mM_ob, Option.bind_some, M_thr, Option.bind_some, z2, if_pos rfl]
    exact ⟨_, rfl, sim_of K1 M2 hP1 (hW.synced hm) (by omega) hN g2 (fun _ _ => rfl)⟩
theorem turn6 (h : SIM b N w) (hN : N + 1 < 100000) (hx : scx n sc i x1 x2 x3 x4 x5 x6) : ∃ w', f_L_case6 w (some b) (some (b + 211)) (some (b + 229)) n sc i = some w' ∧ SIM b (N + 1) w' := by
  obtain ⟨s, I, L, ρ, φ, sl, cnt, act, last, time, cl, D, ou, made, taken, af, ar, src, rfl, hK, hM, hP, hW, hl⟩ := h
  obtain ⟨h1, h2, h3, h4, h5, h6⟩ := hx
  unfold f_L_case6
  simp only [h1, Option.bind_some]
  by_cases c : x1 < 0 ∨ ¬ x1 ≤ 100
  · rw [L_lose_bad c, Option.bind_some]
    dsimp only
    rw [mM_ob, Option.bind_some, M_lose_bad c, Option.bind_some, mM_ob, Option.bind_some, M_thr, Option.bind_some, uI_at, if_pos rfl]
    exact ⟨_, rfl, sim_0 hK hM hP hW (by omega) hN 1⟩
  · obtain ⟨m, -, m100, rfl⟩ := rg_nat (p := x1) (lo := 0) (hi := 100) (fun hc => c (Or.inl hc)) (Classical.not_not.mp (fun hc => c (Or.inr hc))) (by decide) (by decide)
    obtain ⟨ap, hm, hz, hnum, hDs⟩ := hW.bits hK (by omega)
    obtain ⟨c6, c0⟩ := hK.c6
    obtain ⟨b1, b2, b3, b4⟩ := hK.bo
    obtain ⟨⟨I1, L1, ρ1⟩, e1, K1, g1⟩ := L_lose_ok (s := s) hK hW.1 m100
    have hM1 : MR I1 L1 b φ sl cnt act last time cl D ou made taken af ar src := hM.cls g1
    have hP1 : mP b ρ1 := hP.cls g1
    obtain ⟨I2, e2, z2, M2, g2⟩ := M_lose_ok (s := s) hM1 hP1 ap c6 c0 hm hz (fun i hi => (hW.1 _ (b2 i (by omega))).2.2.2.1) m100
    rw [e1, Option.bind_some]
    dsimp only
    rw [mM_ob, Option.bind_some, e2, Option.bind_some, mM_ob, Option.bind_some, M_thr, Option.bind_some, z2, if_pos rfl]
    exact ⟨_, rfl, sim_of K1 M2 hP1 (hW.lost m) (by omega) hN g2 (fun _ _ => rfl)⟩
theorem turn7 (h : SIM b N w) (hN : N + 1 < 100000) (hx : scx n sc i x1 x2 x3 x4 x5 x6) : ∃ w', f_L_case7 w (some b) (some (b + 211)) (some (b + 229)) n sc i = some w' ∧ SIM b (N + 1) w' := by
  obtain ⟨s, I, L, ρ, φ, sl, cnt, act, last, time, cl, D, ou, made, taken, af, ar, src, rfl, hK, hM, hP, hW, hl⟩ := h
  obtain ⟨h1, h2, h3, h4, h5, h6⟩ := hx
  unfold f_L_case7
  obtain ⟨hh, e0⟩ : ∃ hh : Bool, (if x1 = 0 then some (0 : Int32) else some (1 : Int32)) = some (if hh then 1 else 0) := by
    by_cases c : x1 = 0
    · exact ⟨false, by rw [if_pos c]; rfl⟩
    · exact ⟨true, by rw [if_neg c]; rfl⟩
  simp only [h1, Option.bind_some, e0, kA_ob]
  obtain ⟨ap, hm, hz, hnum, hDs⟩ := hW.bits hK (by omega)
  obtain ⟨c6, c0⟩ := hK.c6
  obtain ⟨b1, b2, b3, b4⟩ := hK.bo
  obtain ⟨a, ⟨I1, L1, ρ1⟩, e1, ha, K1, g1, d1, d2, d3⟩ := A_open (s := s) hK ap (fun f hf => ⟨hW.1 f hf, (hK.Z hf).1⟩) hh
  have hM1 : MR I1 L1 b φ sl cnt act last time cl D ou made taken af ar src := hM.cls g1
  have hP1 : mP b ρ1 := hP.cls g1
  obtain ⟨I2, L2, e2, M2, g2, gL⟩ := M_open (s := s) hM1 hP1 ap c6 (fun i hi => ⟨(hz i (by omega)).1, hW.1 _ (b2 i (by omega)), by have := (hW.2.2.2.2.2.1 i hi).1; omega⟩) hh
  rw [e1, Option.bind_some]
  dsimp only
  rw [mM_ob, Option.bind_some, e2, Option.bind_some]
  dsimp only
  rw [ha, if_pos rfl]
  exact ⟨_, rfl, sim_of K1 M2 hP1 (hW.opened hK hh d1 d2 d3) (by omega) hN g2 gL⟩
theorem turn9 (h : SIM b N w) (hN : N + 1 < 100000) : ∃ w', f_L_case9 w (some b) (some (b + 211)) (some (b + 229)) n sc i = some w' ∧ SIM b (N + 1) w' := by
  obtain ⟨s, I, L, ρ, φ, sl, cnt, act, last, time, cl, D, ou, made, taken, af, ar, src, rfl, hK, hM, hP, hW, hl⟩ := h
  unfold f_L_case9
  rw [kA_ob, Option.bind_some, A_files hK.1 hK.2.1, Option.bind_some, mM_ob, Option.bind_some, M_files_ok hM, Option.bind_some]
  dsimp only
  rw [if_pos rfl]
  exact ⟨_, rfl, sim_0 hK hM hP hW (by omega) hN 0⟩
end
