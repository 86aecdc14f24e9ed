/-! ===== the reference publishes: its files ===== -/
theorem nI_sub {a c : Nat} (h : c ≤ a) : nI a - nI c = nI (a - c) := by
  have e : nI a = nI (a - c) + nI c := by rw [nI_add, Nat.sub_add_cancel h]
  rw [e, Int32.add_sub_cancel]
/-- marks are taken off -/
def ude (N : Nat) (E : qE) : qE := fun j => ((E j).1, (E j).2.1, (if (E j).2.2.1 < N then (E j).2.2.1 else (E j).2.2.1 - N), (E j).2.2.2)
theorem ude_dR {n N : Nat} {E : qE} {X : List (Nat × Nat × Nat)} {nm nm' : Nat → Nat} (h : dR nm n E X) (hn : ∀ e ∈ X, nm' e.2.1 = if nm e.2.1 < N then nm e.2.1 else nm e.2.1 - N) : dR nm' n (ude N E) X := by
  obtain ⟨r1, r2, r3, r4, r5⟩ := h
  refine ⟨r1, r2, fun e he => ?_, fun j hj => ?_, r5⟩
  · obtain ⟨j, hj, a1, a2, a3⟩ := r3 e he
    refine ⟨j, hj, a1, ?_, a3⟩
    show (if (E j).2.2.1 < N then (E j).2.2.1 else (E j).2.2.1 - N) = _
    rw [a2, hn e he]
  · obtain ⟨e, he, a1, a2, a3⟩ := r4 j hj
    refine ⟨e, he, a1, ?_, a3⟩
    show (if (E j).2.2.1 < N then (E j).2.2.1 else (E j).2.2.1 - N) = _
    rw [a2, hn e he]
section
variable {I I' : mN} {L L' : mL} {ρ : mQ} {s : Option Nat} {b n : Nat} {E : qE} {sl : List Nat} {cnt : Nat} {D : List (Nat × Nat × Nat)} {ou : List Nat} {taken : Nat} {M : qM}
/-- the second loop -/
theorem M_pub2 (hP : mP b ρ) {N : Nat} {N32 : Int32} (e1k : nI N = N32) (hN : N < 2 ^ 31) (hd : mDir I L b n E) {ρ' : Type} {F : Int32 × aw_W → Option ρ'} {G : Option ρ' → Prop}
    (hG : ∀ I' i, mDir I' L b n (ude N E) → mfr I I' (fun a _ => a = b + 227) → G (F (i, (s, pw_lay (pw_σ b) (I', L, ρ))))) :
    G ((aw_wh (σ := Int32 × aw_W) (τ := Int32 × aw_W) (fun s21 =>
    (aw_gI s21.2 (some (b + 211)) 7 15).bind fun v22 =>
    if v22 ≤ s21.1 then
      some (.inr (s21.1, s21.2))
    else
      (aw_gR s21.2 (some (b + 211)) 7 18).bind fun v23 =>
      (aw_aI s21.2 v23 1 s21.1).bind fun v24 =>
      (if v24 < N32 then
          some s21.2
        else
          (aw_gR s21.2 (some (b + 211)) 7 18).bind fun v25 =>
          (aw_gR s21.2 (some (b + 211)) 7 18).bind fun v26 =>
          (aw_aI s21.2 v26 1 s21.1).bind fun v27 =>
          (aw_sI s21.2 v25 1 s21.1 (v27 - N32)).bind fun v28 =>
          some v28 : Option (aw_W)).bind fun j29 =>
      some (.inl (s21.1 + 1, j29))) ((0 : Int32), (s, pw_lay (pw_σ b) (I, L, ρ)))).bind F) := by
  refine pw_loopG (G := G) n (fun m a => ∃ i J, a = (nI i, (s, pw_lay (pw_σ b) (J, L, ρ))) ∧ i + m = n ∧ mfr I J (fun a _ => a = b + 227) ∧ mDir J L b n (fun j => if j < i then ude N E j else E j))
    (fun a => ∃ i J, a = (i, (s, pw_lay (pw_σ b) (J, L, ρ))) ∧ mfr I J (fun a _ => a = b + 227) ∧ mDir J L b n (ude N E)) ⟨0, I, rfl, Nat.zero_add _, mfr.rfl, ?_⟩ ?_ ?_
  · rw [show (fun j => if j < 0 then ude N E j else E j) = E from funext fun j => if_neg (Nat.not_lt_zero j)]
    exact hd
  · rintro m a ⟨i, J, rfl, him, gJ, d⟩
    obtain ⟨d1, d2, d3⟩ := d
    dsimp only at d3
    dsimp only
    rw [mf_15, Option.bind_some, d1]
    by_cases c : i < n
    · left
      have hi := d3 i c
      rw [if_neg (Nat.lt_irrefl i)] at hi
      obtain ⟨z1, z2, z3, z4, z5, z6, z7, z8⟩ := hi
      have keepE : ∀ j, j ≠ i → (if j < i + 1 then ude N E j else E j) = (if j < i then ude N E j else E j) := fun j hj => by
        by_cases c1 : j < i
        · rw [if_pos c1, if_pos (by omega)]
        · rw [if_neg c1, if_neg (by omega)]
      rw [if_neg (nI_ge c (by omega)), mg_18 hP, Option.bind_some, ma_227 (by omega), Option.bind_some, z3]
      by_cases c5 : (E i).2.2.1 < N
      · rw [if_pos (show nI (E i).2.2.1 < N32 from (e1k ▸ nI_lt c5 (by omega))), Option.bind_some, nI_1]
        refine ⟨m - 1, _, by omega, rfl, i + 1, J, rfl, by omega, gJ, d1, d2, fun j hj => ?_⟩
        dsimp only
        by_cases cj : j = i
        · rw [cj, if_pos (Nat.lt_succ_self i)]
          have eu : ude N E i = E i := by unfold ude; rw [if_pos c5]
          rw [eu]
          exact ⟨z1, z2, z3, z4, z5, z6, z7, z8⟩
        · rw [keepE j cj]
          exact d3 j hj
      · have e5 : nI (E i).2.2.1 - N32 = nI ((E i).2.2.1 - N) := by rw [← e1k, nI_sub (by omega)]
        rw [if_neg (show ¬ nI (E i).2.2.1 < N32 from (e1k ▸ nI_nlt (Nat.le_of_not_lt c5) (by omega))), Option.bind_some, Option.bind_some, ma_227 (by omega), Option.bind_some, z3, e5, ms_227 (by omega), Option.bind_some, Option.bind_some, nI_1]
        refine ⟨m - 1, _, by omega, rfl, i + 1, _, rfl, by omega, gJ.trans (mfr.uI rfl), ?_, d2, fun j hj => ?_⟩
        · rw [uI_ne (by omega)]; exact d1
        · dsimp only
          by_cases cj : j = i
          · rw [cj, if_pos (Nat.lt_succ_self i)]
            have eu : ude N E i = ((E i).1, (E i).2.1, (E i).2.2.1 - N, (E i).2.2.2) := by unfold ude; rw [if_neg c5]
            rw [eu]
            refine ⟨z1, ?_, uI_at, ?_, z5, z6, by dsimp only; omega, z8⟩
            · rw [uI_ne (by omega)]; exact z2
            · rw [uI_ne (by omega)]; exact z4
          · rw [keepE j cj]
            obtain ⟨y1, y2, y3, y4, y5⟩ := d3 j hj
            refine ⟨y1, ?_, ?_, ?_, y5⟩
            · rw [uI_ne (by omega)]; exact y2
            · rw [uI_ne (by omega)]; exact y3
            · rw [uI_ne (by omega)]; exact y4
    · right
      refine ⟨_, if_pos (nI_le (by omega) (by omega)), _, J, rfl, gJ, d1, d2, fun j hj => ?_⟩
      have := d3 j hj
      rw [if_pos (by omega)] at this
      exact this
  · rintro a ⟨i, J, rfl, gJ, d⟩
    exact hG J i d gJ
/-- a row and its number -/
def mRw (I : mN) (b i : Nat) (t : qf) : Prop := I (b + 212) i = nI t.1 ∧ mW I b i t
theorem mRw.fr {Q : Nat → Nat → Prop} {i : Nat} {t : qf} (h : mRw I b i t) (z : mZ t) (g : mfr I I' Q) (hQ : ∀ a k, mC b i a k → ¬ Q a k) : mRw I' b i t := ⟨by rw [g _ _ (hQ _ _ (Or.inl ⟨by omega, rfl⟩))]; exact h.1, h.2.fr z g hQ⟩
theorem mC_apart {i j a k : Nat} (h : mC b i a k) (h' : mC b j a k) : i = j := by
  unfold mC at h h'
  omega
theorem mW_num {I : mN} {i x : Nat} {t : qf} (h : mW I b i t) : mW I b i (x, t.2) := h
theorem pt_pub_Z {t : qf} {x : Nat} (hV : qV t) (hz : mZ t) (hc : qCh 0 t.2.2.2.2 t.2.1.length) : mZ (pt_pub t x) := by
  refine ⟨hz.1, ?_, hz.2.2⟩
  have h1 := hc.ents hz.1
  show (pn_ents t.2.1 t.2.2.2.2 ++ _).length ≤ 104
  rw [List.length_append, pn_bys_len]
  omega
/-- the third loop -/
theorem M_pub3 (hP : mP b ρ) (h : mrM I b sl ou cnt taken M) (hI : mI b sl ou D taken M) (hbo : ∀ o, o < 6 → isB b (ou.getD o 0)) (h6 : cnt ≤ 6) (ht : taken ≤ cnt) (hz : ∀ i, i < 6 → mZ (M.1 (sl.getD i 0)) ∧ mZ (M.1 (ou.getD i 0))) {ρ' : Type} {F : Int32 × aw_W → Option ρ'} {G : Option ρ' → Prop}
    (hG : ∀ I' i, (∀ o, o < M.2.1 → mRw I' b o (pt_pub (M.1 (ou.getD o 0)) (M.1 (sl.getD o 0)).1)) → (∀ j, M.2.1 ≤ j → j < cnt → mRw I' b j (M.1 (sl.getD j 0))) → mfr I I' (fun a k => ∃ i, i < 12 ∧ mC b i a k) → G (F (i, (s, pw_lay (pw_σ b) (I', L, ρ))))) :
    G ((aw_wh (σ := Int32 × aw_W) (τ := Int32 × aw_W) (fun s31 =>
    (aw_gI s31.2 (some (b + 211)) 7 28).bind fun v32 =>
    if v32 ≤ s31.1 then
      some (.inr (s31.1, s31.2))
    else
      (aw_gR s31.2 (some (b + 211)) 7 2).bind fun v33 =>
      (aw_gR s31.2 (some (b + 211)) 7 2).bind fun v34 =>
      (aw_aI s31.2 v34 1 s31.1).bind fun v35 =>
      (aw_sI s31.2 v33 1 ((6 : Int32) + s31.1) v35).bind fun v36 =>
      (aw_gR v36 (some (b + 211)) 7 4).bind fun v37 =>
      (aw_gR v36 (some (b + 211)) 7 3).bind fun v38 =>
      (aw_aI v36 v38 1 ((6 : Int32) + s31.1)).bind fun v39 =>
      (aw_sI v36 v37 1 ((6 : Int32) + s31.1) v39).bind fun v40 =>
      (aw_obj v40 (some (b + 211)) 7).bind fun v41 =>
      (f_M_makeHint v40 (some (b + 211)) ((6 : Int32) + s31.1)).bind fun v42 =>
      (aw_obj v42 (some (b + 211)) 7).bind fun v43 =>
      (f_M_copyRow v42 (some (b + 211)) ((6 : Int32) + s31.1) s31.1).bind fun v44 =>
      some (.inl (s31.1 + 1, v44))) ((0 : Int32), (s, pw_lay (pw_σ b) (I, L, ρ)))).bind F) := by
  obtain ⟨q1, q2, q3, q4, q5, q6⟩ := h
  obtain ⟨i1, i2, i3, i4, i5, i6, i7, i8, i9, i10⟩ := hI
  have hzp : ∀ o, o < M.2.1 → mZ (pt_pub (M.1 (ou.getD o 0)) (M.1 (sl.getD o 0)).1) := fun o ho => pt_pub_Z (i1 _ (hbo o (by omega))).1 (hz o (by omega)).2 (i3 o ho).1
  refine pw_loopG (G := G) M.2.1 (fun m a => ∃ o J, a = (nI o, (s, pw_lay (pw_σ b) (J, L, ρ))) ∧ o + m = M.2.1 ∧ mfr I J (fun a k => ∃ i, i < 12 ∧ mC b i a k) ∧ (∀ o', o' < o → mRw J b o' (pt_pub (M.1 (ou.getD o' 0)) (M.1 (sl.getD o' 0)).1)) ∧ (∀ j, o ≤ j → j < cnt → mRw J b j (M.1 (sl.getD j 0))) ∧ ∀ o', o ≤ o' → o' < M.2.1 → mW J b (6 + o') (M.1 (ou.getD o' 0)))
    (fun a => ∃ i J, a = (i, (s, pw_lay (pw_σ b) (J, L, ρ))) ∧ mfr I J (fun a k => ∃ i, i < 12 ∧ mC b i a k) ∧ (∀ o', o' < M.2.1 → mRw J b o' (pt_pub (M.1 (ou.getD o' 0)) (M.1 (sl.getD o' 0)).1)) ∧ (∀ j, M.2.1 ≤ j → j < cnt → mRw J b j (M.1 (sl.getD j 0)))) ⟨0, I, rfl, Nat.zero_add _, mfr.rfl, fun o ho => absurd ho (Nat.not_lt_zero _), fun j _ hj => q1 j hj, fun o _ ho => (q6 o ho).1⟩ ?_ ?_
  · rintro m a ⟨o, J, rfl, hom, gJ, k1, k2, k3⟩
    dsimp only
    have e28 : J (b + 211) 28 = nI M.2.1 := by rw [gJ _ _ (fun hc => by obtain ⟨i, -, hc⟩ := hc; unfold mC at hc; omega)]; exact q5
    rw [mf_28, Option.bind_some, e28]
    by_cases c : o < M.2.1
    · left
      have e6 : (6 : Int32) + nI o = nI (6 + o) := by rw [show (6 : Int32) = nI 6 from rfl, nI_add]
      have hn := (k2 o (Nat.le_refl _) (by omega)).1
      have w0 := k3 o (Nat.le_refl _) c
      have hzo := (hz o (by omega)).2
      obtain ⟨hch, hH⟩ := i3 o c
      have hVo := (i1 _ (hbo o (by omega)))
      obtain ⟨en1, en2⟩ := hch.ents hVo.2
      -- the number and the synced length
      let J1 := uI J (b + 212) (6 + o) (nI (M.1 (sl.getD o 0)).1)
      have w1 : mW J1 b (6 + o) (M.1 (ou.getD o 0)) := w0.num _ _
      let J2 := uI J1 (b + 214) (6 + o) (nI (M.1 (ou.getD o 0)).2.1.length)
      have w2 : mW J2 b (6 + o) (pt_sync (M.1 (ou.getD o 0))) := w1.sync
      have g1 : mfr J J1 (mC b (6 + o)) := mfr.uI (Or.inl ⟨by omega, rfl⟩)
      have g2 : mfr J1 J2 (mC b (6 + o)) := mfr.uI (Or.inl ⟨by omega, rfl⟩)
      obtain ⟨J3, e3, w3, g3⟩ := M_makeHint (s := s) (L := L) hP w2 hzo (show 6 + o < 12 by omega) hVo.1.1 hH (fun r hr => ⟨en1 r hr, (hVo.1.2.2.2.2 r hr).1, (hVo.1.2.2.2.2 r hr).2.1⟩) en2
      have w3' : mW J3 b (6 + o) (pt_pub (M.1 (ou.getD o 0)) (M.1 (sl.getD o 0)).1) := w3
      obtain ⟨J4, e4, w4, n4, g4⟩ := M_copyRow (s := s) (L := L) (y := o) hP w3' (hzp o c) (show 6 + o < 12 by omega) (by omega) (by omega)
      have n3 : J3 (b + 212) (6 + o) = nI (M.1 (sl.getD o 0)).1 := by
        rw [g3 _ _ (fun hc => hc.2 rfl)]
        show uI J1 _ _ _ _ _ = _
        rw [uI_ne (by omega)]
        exact uI_at
      have ga : mfr J J3 (mC b (6 + o)) := (g1.trans g2).trans (g3.mono (fun a k hk => hk.1))
      have gb : mfr J3 J4 (mC b o) := g4.mono (fun a k hk => hk.1)
      have kp : ∀ {j : Nat} {t : qf}, j < 6 → j ≠ o → mZ t → mRw J b j t → mRw J4 b j t := fun {j} {t} h6 hj hzt hr => (hr.fr hzt ga (fun a k h1 h2 => by have := mC_apart h1 h2; omega)).fr hzt gb (fun a k h1 h2 => hj (mC_apart h1 h2))
      have e12 : uI J (b + 212) (6 + o) (nI (M.1 (sl.getD o 0)).1) (b + 213) (6 + o) = nI (M.1 (ou.getD o 0)).2.1.length := w1.1
      refine ⟨m - 1, (nI (o + 1), (s, pw_lay (pw_σ b) (J4, L, ρ))), by omega, ?_, o + 1, J4, rfl, by omega, (gJ.trans (ga.mono (fun a k hk => ⟨6 + o, by omega, hk⟩))).trans (gb.mono (fun a k hk => ⟨o, by omega, hk⟩)), fun o' ho' => ?_, fun j hj hj2 => ?_, fun o' ho' ho2 => ?_⟩
      · rw [if_neg (nI_ge c (by omega)), mg_2 hP, Option.bind_some, Option.bind_some, ma_212 (by omega), Option.bind_some, hn, e6, ms_212 (by omega)]
        show ((aw_gR (s, pw_lay (pw_σ b) (J1, L, ρ)) (some (b + 211)) 7 4).bind _) = _
        rw [mg_4 hP, Option.bind_some, mg_3 hP, Option.bind_some, ma_213 (by omega), Option.bind_some, e12, ms_214 (by omega)]
        show ((aw_obj (s, pw_lay (pw_σ b) (J2, L, ρ)) (some (b + 211)) 7).bind _) = _
        rw [mM_ob, Option.bind_some, e3, Option.bind_some, mM_ob, Option.bind_some, e4, Option.bind_some, nI_1]
      · by_cases co : o' = o
        · rw [co]
          exact ⟨by rw [n4, n3]; rfl, w4⟩
        · exact kp (by omega) co (hzp o' (by omega)) (k1 o' (by omega))
      · exact kp (by omega) (by omega) (hz j (by omega)).1 (k2 j (by omega) hj2)
      · have hzo' := (hz o' (by omega)).2
        exact ((k3 o' (by omega) ho2).fr hzo' ga (fun a k h1 h2 => by have := mC_apart h1 h2; omega)).fr hzo' gb (fun a k h1 h2 => by have := mC_apart h1 h2; omega)
    · right
      have ho : o = M.2.1 := by omega
      rw [ho] at k1 k2
      exact ⟨_, if_pos (nI_le (by omega) (by omega)), _, J, rfl, gJ, k1, k2⟩
  · rintro a ⟨i, J, rfl, gJ, k1, k2⟩
    exact hG J i k1 k2 gJ
/-- the fourth loop -/
theorem M_pub4 (hP : mP b ρ) {made : Nat} {φ ψ : Nat → qf} (hmt : made ≤ taken) (h6 : cnt ≤ 6) (ht : taken ≤ cnt) (hc1 : I (b + 211) 1 = nI cnt) (hz : ∀ i, i < 6 → mZ (φ (sl.getD i 0))) (hzp : ∀ o, o < made → mZ (ψ o)) (k1 : ∀ o, o < made → mRw I b o (ψ o)) (k2 : ∀ j, made ≤ j → j < cnt → mRw I b j (φ (sl.getD j 0))) {ρ' : Type} {F : Int32 × aw_W → Option ρ'} {G : Option ρ' → Prop}
    (hG : ∀ I' i, (∀ o, o < made → mRw I' b o (ψ o)) → (∀ j, made ≤ j → j < cnt - (taken - made) → mRw I' b j (φ (sl.getD (j + (taken - made)) 0))) → mfr I I' (fun a k => ∃ i, i < 12 ∧ mC b i a k) → G (F (i, (s, pw_lay (pw_σ b) (I', L, ρ))))) :
    G ((aw_wh (σ := Int32 × aw_W) (τ := Int32 × aw_W) (fun s49 =>
    (aw_gI s49.2 (some (b + 211)) 7 1).bind fun v50 =>
    if v50 ≤ s49.1 then
      some (.inr (s49.1, s49.2))
    else
      if (nI taken - nI made) ≤ 0 then
        some (.inr (s49.1, s49.2))
      else
        (aw_obj s49.2 (some (b + 211)) 7).bind fun v51 =>
        (f_M_copyRow s49.2 (some (b + 211)) s49.1 (s49.1 - (nI taken - nI made))).bind fun v52 =>
        some (.inl (s49.1 + 1, v52))) (nI taken, (s, pw_lay (pw_σ b) (I, L, ρ)))).bind F) := by
  rw [nI_sub hmt]
  refine pw_loopG (G := G) (cnt - taken) (fun m a => ∃ i J, a = (nI i, (s, pw_lay (pw_σ b) (J, L, ρ))) ∧ i + m = cnt ∧ taken ≤ i ∧ mfr I J (fun a k => ∃ i, i < 12 ∧ mC b i a k) ∧ (∀ o, o < made → mRw J b o (ψ o)) ∧ (∀ j, made ≤ j → j < i - (taken - made) → mRw J b j (φ (sl.getD (j + (taken - made)) 0))) ∧ ∀ j, i ≤ j → j < cnt → mRw J b j (φ (sl.getD j 0)))
    (fun a => ∃ i J, a = (i, (s, pw_lay (pw_σ b) (J, L, ρ))) ∧ mfr I J (fun a k => ∃ i, i < 12 ∧ mC b i a k) ∧ (∀ o, o < made → mRw J b o (ψ o)) ∧ (∀ j, made ≤ j → j < cnt - (taken - made) → mRw J b j (φ (sl.getD (j + (taken - made)) 0)))) ⟨taken, I, rfl, by omega, Nat.le_refl _, mfr.rfl, k1, fun j h1 h2 => by omega, fun j h1 h2 => k2 j (by omega) h2⟩ ?_ ?_
  · rintro m a ⟨i, J, rfl, him, hti, gJ, q1, q2, q3⟩
    dsimp only
    have e1 : J (b + 211) 1 = nI cnt := by rw [gJ _ _ (fun hc => by obtain ⟨i, -, hc⟩ := hc; unfold mC at hc; omega)]; exact hc1
    rw [mf_1, Option.bind_some, e1]
    by_cases c : i < cnt
    · rw [if_neg (nI_ge c (by omega))]
      by_cases c0 : taken = made
      · right
        refine ⟨_, if_pos (by rw [c0, Nat.sub_self]; decide), _, J, rfl, gJ, q1, fun j h1 h2 => ?_⟩
        rw [c0, Nat.sub_self, Nat.add_zero]
        by_cases cj : j < i
        · have := q2 j h1 (by omega)
          rw [c0, Nat.sub_self, Nat.add_zero] at this
          exact this
        · exact q3 j (by omega) (by omega)
      · left
        rw [if_neg (nI_nle (by omega) (by omega)), mM_ob, Option.bind_some, nI_sub (by omega)]
        have hr := q3 i (Nat.le_refl _) c
        have hzi := hz i (by omega)
        obtain ⟨J2, e2, w2, n2, g2⟩ := M_copyRow (s := s) (L := L) (y := i - (taken - made)) hP hr.2 hzi (by omega) (by omega) (by omega)
        have g2' : mfr J J2 (mC b (i - (taken - made))) := g2.mono (fun a k hk => hk.1)
        have kp : ∀ {j : Nat} {t : qf}, j ≠ i - (taken - made) → mZ t → mRw J b j t → mRw J2 b j t := fun {j} {t} hj hzt hr => hr.fr hzt g2' (fun a k h1 h2 => hj (mC_apart h1 h2))
        refine ⟨m - 1, (nI (i + 1), (s, pw_lay (pw_σ b) (J2, L, ρ))), by omega, by rw [e2, Option.bind_some, nI_1], i + 1, J2, rfl, by omega, by omega, gJ.trans (g2'.mono (fun a k hk => ⟨_, by omega, hk⟩)), fun o ho => kp (by omega) (hzp o ho) (q1 o ho), fun j h1 h2 => ?_, fun j h1 h2 => kp (by omega) (hz j (by omega)) (q3 j (by omega) h2)⟩
        by_cases cj : j = i - (taken - made)
        · rw [cj, Nat.sub_add_cancel (by omega)]
          exact ⟨by rw [n2]; exact hr.1, w2⟩
        · exact kp cj (hz _ (by omega)) (q2 j h1 (by omega))
    · right
      have hi : i = cnt := by omega
      rw [hi] at q2
      exact ⟨_, if_pos (nI_le (by omega) (by omega)), _, J, rfl, gJ, q1, q2⟩
  · rintro a ⟨i, J, rfl, gJ, q1, q2⟩
    exact hG J i q1 q2 gJ
end
