/-! ===== the turns: put, delete, get, keys, key ===== -/
def scx (n : Nat) (sc : Nat → Int32) (i x1 x2 x3 x4 x5 x6 : Int32) : Prop := aw_scr n sc (i + (1 : Int32)) = some x1 ∧ aw_scr n sc (i + (2 : Int32)) = some x2 ∧ aw_scr n sc (i + (3 : Int32)) = some x3 ∧ aw_scr n sc (i + (4 : Int32)) = some x4 ∧ aw_scr n sc (i + (5 : Int32)) = some x5 ∧ aw_scr n sc (i + (6 : Int32)) = some x6
theorem sL_eq {I : mN} {L : mL} {ρ : mQ} {a k : Nat} {x : Int64} : pw_sL (I, L, ρ) a k x = (I, uL L a k x, ρ) := rfl
theorem rg_k {p : Int32} (h : ¬ (p < 1 ∨ ¬ p ≤ 4)) : ∃ k, 1 ≤ k ∧ k ≤ 4 ∧ p = nI k := rg_nat (lo := 1) (hi := 4) (fun hc => h (Or.inl hc)) (Classical.not_not.mp (fun hc => h (Or.inr hc))) (by decide) (by decide)
theorem rg_v {p : Int32} (h : ¬ (p < 0 ∨ ¬ p ≤ 8)) : ∃ k, k ≤ 8 ∧ p = nI k := by
  obtain ⟨k, -, h2, h3⟩ := rg_nat (p := p) (lo := 0) (hi := 8) (fun hc => h (Or.inl hc)) (Classical.not_not.mp (fun hc => h (Or.inr hc))) (by decide) (by decide)
  exact ⟨k, h2, h3⟩
theorem aL_gT {s : Option Nat} {I : mN} {L : mL} {ρ : mQ} {b : Nat} : aw_aL (s, pw_lay (pw_σ b) (I, L, ρ)) (some (b + 229)) 2 (0 : Int32) = some (L (b + 229) 0) := aL_get
section
variable {w : aw_W} {b N n : Nat} {sc : Nat → Int32} {i x1 x2 x3 x4 x5 x6 : Int32}
theorem SIM.mono {N' : Nat} (h : SIM b N w) (hN : N ≤ N') : SIM b N' w := by
  obtain ⟨s, I, L, ρ, φ, sl, cnt, act, last, time, cl, D, ou, made, taken, af, ar, src, rfl, hK, hM, hP, hW, hl⟩ := h
  exact ⟨s, I, L, ρ, φ, sl, cnt, act, last, time, cl, D, ou, made, taken, af, ar, src, rfl, hK, hM, hP, hW, Nat.le_trans hl hN⟩
theorem turn0 (h : SIM b N w) (hN : N + 1 < 100000) (hx : scx n sc i x1 x2 x3 x4 x5 x6) : ∃ w', f_L_case0 w (some b) (some (b + 211)) (some (b + 229)) n sc i = some w' ∧ SIM b (N + 1) w' := by
  obtain ⟨s, I, L, ρ, φ, sl, cnt, act, last, time, cl, D, ou, made, taken, af, ar, src, rfl, hK, hM, hP, hW, hl⟩ := h
  obtain ⟨h1, h2, h3, h4, h5, h6⟩ := hx
  unfold f_L_case0
  simp only [h1, h2, h3, h4, h5, h6, Option.bind_some]
  generalize aj_lshl x1.toInt64 32 ||| x2.toInt64 &&& 4294967295 = key
  generalize aj_lshl x4.toInt64 32 ||| x5.toInt64 &&& 4294967295 = value
  by_cases c : (x3 < 1 ∨ ¬ x3 ≤ 4) ∨ (x6 < 0 ∨ ¬ x6 ≤ 8)
  · rw [L_put_bad c, Option.bind_some]
    dsimp only
    rw [mM_ob, Option.bind_some, M_put_bad c, Option.bind_some, mM_ob, Option.bind_some, M_thr, Option.bind_some, uI_at, if_pos rfl]
    exact ⟨_, rfl, sim_0 hK hM hP hW (by omega) hN 1⟩
  · obtain ⟨k, k1, k4, rfl⟩ := rg_k (fun hc => c (Or.inl hc))
    obtain ⟨v, v8, rfl⟩ := rg_v (fun hc => c (Or.inr hc))
    cases cl with
    | true =>
      rw [L_put_cl hK.1 k1 k4 v8, Option.bind_some]
      dsimp only
      rw [mM_ob, Option.bind_some, M_put_cl hM k1 k4 v8, Option.bind_some, mM_ob, Option.bind_some, M_thr, Option.bind_some, uI_at, if_pos rfl]
      exact ⟨_, rfl, sim_0 hK hM hP hW (by omega) hN 2⟩
    | false =>
      obtain ⟨p1, p2⟩ := hW.pre hK (by omega)
      obtain ⟨ap, hm, -⟩ := hW.bits hK (by omega)
      obtain ⟨a1, a2⟩ := L_put_op (s := s) hK ap hm p1 (key := key) (value := value) k1 k4 v8
      by_cases hc : pk_fit φ sl cnt act (pn_len k v) ∨ cnt < 6
      · obtain ⟨⟨I1, L1, ρ1⟩, e1, K1, g1⟩ := a2 hc
        have hM1 : MR I1 L1 b φ sl cnt act last time false D ou made taken af ar src := hM.cls g1
        have hP1 : mP b ρ1 := hP.cls g1
        obtain ⟨I2, L2, e2, z2, M2, g2, gL⟩ := (M_put_op (s := s) hM1 hP1 p2 (key := key) (value := value) k1 k4 v8).2 hc
        obtain ⟨W2, l2⟩ := hW.app hK (by omega) k1 k4 (pn_cut_lt key k) (Or.inl v8) value hc (tomb := false) (fun _ => by omega)
        rw [e1, Option.bind_some]
        dsimp only
        rw [mM_ob, Option.bind_some, e2, Option.bind_some, mM_ob, Option.bind_some, M_thr, Option.bind_some, z2, if_pos rfl]
        exact ⟨_, rfl, sim_of K1 M2 hP1 W2 (by omega) hN g2 gL⟩
      · have nf : ¬ pk_fit φ sl cnt act (pn_len k v) := fun h => hc (Or.inl h)
        have c6 : cnt = 6 := by have := hK.c6.1; omega
        rw [a1 nf c6, Option.bind_some]
        dsimp only
        rw [mM_ob, Option.bind_some, (M_put_op (s := none) hM hP p2 k1 k4 v8).1 nf c6, Option.bind_some, mM_ob, Option.bind_some, M_thr, Option.bind_some, uI_at, if_pos rfl]
        exact ⟨_, rfl, sim_0 hK hM hP hW (by omega) hN 3⟩
theorem turn1 (h : SIM b N w) (hN : N + 1 < 100000) (hx : scx n sc i x1 x2 x3 x4 x5 x6) : ∃ w', f_L_case1 w (some b) (some (b + 211)) (some (b + 229)) n sc i = some w' ∧ SIM b (N + 1) w' := by
  obtain ⟨s, I, L, ρ, φ, sl, cnt, act, last, time, cl, D, ou, made, taken, af, ar, src, rfl, hK, hM, hP, hW, hl⟩ := h
  obtain ⟨h1, h2, h3, h4, h5, h6⟩ := hx
  unfold f_L_case1
  simp only [h1, h2, h3, Option.bind_some]
  generalize aj_lshl x1.toInt64 32 ||| x2.toInt64 &&& 4294967295 = key
  by_cases c : x3 < 1 ∨ ¬ x3 ≤ 4
  · rw [L_del_bad c, Option.bind_some]
    dsimp only
    rw [mM_ob, Option.bind_some, M_del_bad c, Option.bind_some]
    dsimp only
    rw [mM_ob, Option.bind_some, M_thr, Option.bind_some, uI_at, if_pos rfl, if_neg (by decide)]
    exact ⟨_, rfl, sim_0 hK hM hP hW (by omega) hN 1⟩
  · obtain ⟨k, k1, k4, rfl⟩ := rg_k c
    cases cl with
    | true =>
      rw [L_del_cl hK.1 k1 k4, Option.bind_some]
      dsimp only
      rw [mM_ob, Option.bind_some, M_del_cl hM k1 k4, Option.bind_some]
      dsimp only
      rw [mM_ob, Option.bind_some, M_thr, Option.bind_some, uI_at, if_pos rfl, if_neg (by decide)]
      exact ⟨_, rfl, sim_0 hK hM hP hW (by omega) hN 2⟩
    | false =>
      obtain ⟨p1, p2⟩ := hW.pre hK (by omega)
      obtain ⟨ap, hm, -⟩ := hW.bits hK (by omega)
      obtain ⟨a1, a2, a3⟩ := L_del_op (s := s) hK ap hm p1 (key := key) k1 k4
      by_cases hq : pe_find (pn_rank k (pn_cut key k)) D = none
      · have hK1 := hK.cell hm 0
        have hM1 : MR I (uL L (b + 229) 0 0) b φ sl cnt act last time false D ou made taken af ar src := hM.ext (fun _ _ => rfl) (sL_225 (I, L, ρ) b 0)
        rw [a1 hq, Option.bind_some]
        dsimp only
        rw [sL_eq] at hK1 ⊢
        rw [mM_ob, Option.bind_some, (M_del_op (s := s) hM1 hP p2 k1 k4).1 hq, Option.bind_some]
        dsimp only
        rw [mM_ob, Option.bind_some, M_thr, Option.bind_some, uI_at, if_pos rfl, if_pos rfl, aL_gT, Option.bind_some, if_pos rfl, Option.bind_some, if_pos ((lg_cmp_eq _ _).mpr uL_at)]
        exact ⟨_, rfl, sim_0 hK1 hM1 hP hW (by omega) hN 0⟩
      · by_cases hc : pk_fit φ sl cnt act (pn_len k 255) ∨ cnt < 6
        · obtain ⟨⟨I1, L1, ρ1⟩, e1, K1, g1⟩ := a3 hq hc
          have hM1 : MR I1 L1 b φ sl cnt act last time false D ou made taken af ar src := hM.cls g1
          have hP1 : mP b ρ1 := hP.cls g1
          have hM1' : MR I1 (uL L1 (b + 229) 0 1) b φ sl cnt act last time false D ou made taken af ar src := hM1.ext (fun _ _ => rfl) (sL_225 (I1, L1, ρ1) b 1)
          obtain ⟨I2, L2, e2, z2, M2, g2, gL⟩ := (M_del_op (s := s) hM1' hP1 p2 (key := key) k1 k4).2.2 hq hc
          obtain ⟨W2, l2⟩ := hW.app hK (by omega) k1 k4 (pn_cut_lt key k) (Or.inr rfl) 0 hc (tomb := true) (fun h => by cases h)
          have K1' := K1.cell hm 1
          rw [sL_eq] at K1'
          rw [e1, Option.bind_some]
          dsimp only
          rw [sL_eq, mM_ob, Option.bind_some, e2, Option.bind_some]
          dsimp only
          rw [mM_ob, Option.bind_some, M_thr, Option.bind_some, z2, if_pos rfl, if_pos rfl, aL_gT, Option.bind_some, if_neg (show ¬ (1 : Int32) = 0 by decide), Option.bind_some, if_pos ((lg_cmp_eq _ _).mpr (by rw [gL _ (by omega), uL_at]))]
          exact ⟨_, rfl, sim_of K1' M2 hP1 W2 (by omega) hN g2 gL⟩
        · have nf : ¬ pk_fit φ sl cnt act (pn_len k 255) := fun h => hc (Or.inl h)
          have c6 : cnt = 6 := by have := hK.c6.1; omega
          rw [a2 hq nf c6, Option.bind_some]
          dsimp only
          rw [mM_ob, Option.bind_some, (M_del_op (s := none) hM hP p2 k1 k4).2.1 hq nf c6, Option.bind_some]
          dsimp only
          rw [mM_ob, Option.bind_some, M_thr, Option.bind_some, uI_at, if_pos rfl, if_neg (by decide)]
          have hu : ∀ (J : mN) (x y : Int32), uI (uI J (b + 211) 0 x) (b + 211) 0 y = uI J (b + 211) 0 y := fun J x y => by
            funext a k
            unfold uI
            split
            · rfl
            · rfl
          rw [hu]
          exact ⟨_, rfl, sim_0 hK hM hP hW (by omega) hN 3⟩
end
