/-! ===== a merge is published ===== -/
def pt_pub (t : qf) (n : Nat) : qf := (n, t.2.1, t.2.1.length, pn_mkh t.2.1 t.2.2.2.2, t.2.2.2.2)
def slx (sl ou : List Nat) : Nat → List Nat
  | 0 => sl
  | i + 1 => (slx sl ou i).set i (ou.getD i 0)
def oux (sl ou : List Nat) : Nat → List Nat
  | 0 => ou
  | i + 1 => (oux sl ou i).set i (sl.getD i 0)
def φx (φ : Nat → qf) (sl ou : List Nat) : Nat → Nat → qf
  | 0 => φ
  | i + 1 => pu (φx φ sl ou i) (ou.getD i 0) (pt_pub (φ (ou.getD i 0)) (φ (sl.getD i 0)).1)
def Dx (φ : Nat → qf) (ou : List Nat) (src : Nat → Nat → Nat × Nat) (D : List (Nat × Nat × Nat)) : Nat → List (Nat × Nat × Nat)
  | 0 => D
  | i + 1 => pd_out (pn_rk (φ (ou.getD i 0))) (src i) (ou.getD i 0) (φ (ou.getD i 0)).2.2.2.2.length (Dx φ ou src D i)
theorem slx_len (sl ou : List Nat) : ∀ i, (slx sl ou i).length = sl.length
  | 0 => rfl
  | i + 1 => by rw [slx, List.length_set, slx_len sl ou i]
theorem oux_len (sl ou : List Nat) : ∀ i, (oux sl ou i).length = ou.length
  | 0 => rfl
  | i + 1 => by rw [oux, List.length_set, oux_len sl ou i]
theorem slx_getD {sl ou : List Nat} (h : sl.length = 6) : ∀ i, i ≤ 6 → ∀ j, (slx sl ou i).getD j 0 = if j < i then ou.getD j 0 else sl.getD j 0
  | 0, _, j => by rw [if_neg (Nat.not_lt_zero _)]; rfl
  | i + 1, hi, j => by
    rw [slx, getD_set (by rw [slx_len]; omega), slx_getD h i (by omega) j]
    by_cases c : j = i
    · rw [if_pos c, if_pos (by omega), c]
    · rw [if_neg c]
      by_cases c2 : j < i
      · rw [if_pos c2, if_pos (by omega)]
      · rw [if_neg c2, if_neg (by omega)]
theorem oux_getD {sl ou : List Nat} (h : ou.length = 6) : ∀ i, i ≤ 6 → ∀ j, (oux sl ou i).getD j 0 = if j < i then sl.getD j 0 else ou.getD j 0
  | 0, _, j => by rw [if_neg (Nat.not_lt_zero _)]; rfl
  | i + 1, hi, j => by
    rw [oux, getD_set (by rw [oux_len]; omega), oux_getD h i (by omega) j]
    by_cases c : j = i
    · rw [if_pos c, if_pos (by omega), c]
    · rw [if_neg c]
      by_cases c2 : j < i
      · rw [if_pos c2, if_pos (by omega)]
      · rw [if_neg c2, if_neg (by omega)]
theorem φx_at {φ : Nat → qf} {sl ou : List Nat} (ap : pk_ap sl ou) : ∀ i, i ≤ 6 → (∀ g, (∀ o, o < i → g ≠ ou.getD o 0) → φx φ sl ou i g = φ g) ∧ ∀ o, o < i → φx φ sl ou i (ou.getD o 0) = pt_pub (φ (ou.getD o 0)) (φ (sl.getD o 0)).1
  | 0, _ => ⟨fun _ _ => rfl, fun o ho => absurd ho (Nat.not_lt_zero _)⟩
  | i + 1, hi => by
    obtain ⟨h1, h2⟩ := φx_at (φ := φ) ap i (by omega)
    refine ⟨fun g hg => ?_, fun o ho => ?_⟩
    · rw [φx, pu_ne (hg i (Nat.lt_succ_self _))]
      exact h1 g (fun o ho => hg o (by omega))
    · rw [φx]
      by_cases c : o = i
      · rw [c, pu_at]
      · rw [pu_ne (fun hc => c (ap.2.2.2.1 o i (by omega) (by omega) hc))]
        exact h2 o (by omega)
theorem φx_rs {φ : Nat → qf} {sl ou : List Nat} (g : Nat) : ∀ i, (φx φ sl ou i g).2.2.2.2 = (φ g).2.2.2.2 ∧ (φx φ sl ou i g).2.1 = (φ g).2.1
  | 0 => ⟨rfl, rfl⟩
  | i + 1 => by
    rw [φx]
    by_cases c : g = ou.getD i 0
    · rw [c, pu_at]
      exact ⟨rfl, rfl⟩
    · rw [pu_ne c]
      exact φx_rs g i
theorem pn_ents_tot {B : List Nat} : ∀ rs : List qr, (∀ r ∈ rs, r.1 + 8 + r.2.1 ≤ B.length) → (pn_ents B rs).length ≤ pn_tot rs
  | [], _ => Nat.le_refl _
  | r :: t, h => by
    have := pn_ents_tot t (fun q hq => h q (List.mem_cons_of_mem _ hq))
    rw [pn_ents, pn_tot, List.length_append, pn_ent_len (h r List.mem_cons_self)]
    have := pn_len_ge r.2.1 r.2.2.2
    omega
theorem qCh.ents {B : List Nat} {rs : List qr} (h : qCh 0 rs B.length) (hB : B.length ≤ 100) : (∀ r ∈ rs, r.1 + 8 + r.2.1 ≤ B.length) ∧ (pn_ents B rs).length ≤ 100 := by
  have h1 : ∀ r ∈ rs, r.1 + 8 + r.2.1 ≤ B.length := fun r hr => by
    obtain ⟨n, hn, e⟩ := List.mem_iff_getElem.mp hr
    have := h.fits (n := n) (r := r) (by rw [List.getElem?_eq_getElem hn, e])
    have := pn_len_ge r.2.1 r.2.2.2
    omega
  have h2 := pn_ents_tot rs h1
  have h3 := h.tot
  exact ⟨h1, by omega⟩
theorem pt_pub_V {t : qf} {n : Nat} (h : qV t) (hc : qCh 0 t.2.2.2.2 t.2.1.length) (hl : t.2.1.length ≤ 100) : qV (pt_pub t n) := by
  obtain ⟨h1, h2, h3, h4, h5⟩ := h
  refine ⟨h1, pn_mkh_qB h1 (fun r hr => ?_), Or.inr ?_, Nat.le_refl _, h5⟩
  · have := (hc.ents hl).1 r hr
    omega
  · show 4 ≤ (pn_ents t.2.1 t.2.2.2.2 ++ _).length
    rw [List.length_append, pn_bys_len]
    omega
section
variable {μ μ' : pw_Mem} {s : Option Nat} {b cnt last taken : Nat} {act : Bool} {sl ou fs : List Nat} {D : List (Nat × Nat × Nat)} {M : qM}
/-- what publishing touches in its first loop -/
def pw_inP (b made : Nat) (ou : List Nat) (a : Nat) : Prop := a = b + 2 ∨ a = b + 108 ∨ pw_inD (b + 105) a ∨ ∃ o, o < made ∧ (a = ou.getD o 0 ∨ a = ou.getD o 0 + 3 ∨ a = ou.getD o 0 + 4)
theorem kM_pub1 (hM : kM μ b sl ou cnt act last D taken M) (hI : mI b sl ou D taken M) (ap : pk_ap sl ou) (ht : taken ≤ cnt) (hat : act = true → taken ≤ cnt - 1) (hs : dS D) (hn : dN M.1 D) (ok : dOK M.1 (sl ++ ou) D) {ρ : Type} {F : Int32 × aw_W → Option ρ} {G : Option ρ → Prop}
    (hG : ∀ μ' i, kS μ' b (slx sl ou M.2.1) cnt act last → kE μ' b (Dx M.1 ou M.2.2.2.2 D M.2.1) → kF μ' b (φx M.1 sl ou M.2.1) → kG μ' b (oux sl ou M.2.1) M.2.1 taken M.2.2.1 M.2.2.2.1 → pw_fr μ μ' (pw_inP b M.2.1 ou) → dOK M.1 (sl ++ ou) (Dx M.1 ou M.2.2.2.2 D M.2.1) → dN M.1 (Dx M.1 ou M.2.2.2.2 D M.2.1) → dS (Dx M.1 ou M.2.2.2.2 D M.2.1) → G (F (i, (s, pw_lay (pw_σ b) μ')))) :
    G ((aw_wh (σ := Int32 × aw_W) (τ := Int32 × aw_W) (fun s1 =>
    (aw_gI s1.2 (some (b + 107)) 2 1).bind fun v2 =>
    if v2 ≤ s1.1 then
      some (.inr (s1.1, s1.2))
    else
      (aw_gR s1.2 (some (b + 107)) 2 0).bind fun v3 =>
      (aw_aR s1.2 v3 5 s1.1).bind fun v4 =>
      (aw_obj s1.2 (some (b + 1)) 5).bind fun v5 =>
      (f_S_at s1.2 (some (b + 1)) s1.1).bind fun v6 =>
      (if v6 = none then
          some (0 : Int32)
        else
          (aw_obj s1.2 v6 6).bind fun v7 =>
          (f_F_number s1.2 v6).bind fun v8 =>
          some v8 : Option (Int32)).bind fun j9 =>
      (aw_obj s1.2 v4 6).bind fun v10 =>
      (f_F_publishAs s1.2 v4 j9).bind fun v11 =>
      (f_G_pointToCopies v11 v4 (some (b + 105))).bind fun v12 =>
      (aw_gR v12 (some (b + 107)) 2 0).bind fun v13 =>
      (aw_obj v12 (some (b + 1)) 5).bind fun v14 =>
      (f_S_exchange v12 (some (b + 1)) s1.1 v4).bind fun v15 =>
      (aw_obj v15.2 v15.1 6).bind fun v16 =>
      (aw_sR v15.2 v13 5 s1.1 v15.1).bind fun v17 =>
      some (.inl (s1.1 + 1, v17))) ((0 : Int32), (s, pw_lay (pw_σ b) μ))).bind F) := by
  obtain ⟨hS, hE, hF, hGG, hX⟩ := hM
  have h6 : cnt ≤ 6 := hS.2.2.2.2.2.1
  have hbo : ∀ o, o < 6 → isB b (ou.getD o 0) := fun o ho => (kG_getD hGG ho).2.2
  have hbs : ∀ i, i < 6 → isB b (sl.getD i 0) := fun i hi => (kS_getD hS hi).2.2
  have hfs : ∀ f ∈ sl ++ ou, isB b f := fun f hf => (List.mem_append.mp hf).elim (hS.2.2.2.2.2.2.2.2 f) (hGG.2.2.2.2.2.2.2 f)
  obtain ⟨h1, h2, h3, h4, h5, h6', h7, h8, h9, h10⟩ := hI
  refine pw_loopG (G := G) M.2.1 (fun n a => ∃ i μ1, a = (nI i, (s, pw_lay (pw_σ b) μ1)) ∧ n + i = M.2.1 ∧ kS μ1 b (slx sl ou i) cnt act last ∧ kE μ1 b (Dx M.1 ou M.2.2.2.2 D i) ∧ kF μ1 b (φx M.1 sl ou i) ∧ kG μ1 b (oux sl ou i) M.2.1 taken M.2.2.1 M.2.2.2.1 ∧ pw_fr μ μ1 (pw_inP b M.2.1 ou) ∧ dOK M.1 (sl ++ ou) (Dx M.1 ou M.2.2.2.2 D i) ∧ dN M.1 (Dx M.1 ou M.2.2.2.2 D i) ∧ dS (Dx M.1 ou M.2.2.2.2 D i))
    (fun a => ∃ i μ1, a = (i, (s, pw_lay (pw_σ b) μ1)) ∧ kS μ1 b (slx sl ou M.2.1) cnt act last ∧ kE μ1 b (Dx M.1 ou M.2.2.2.2 D M.2.1) ∧ kF μ1 b (φx M.1 sl ou M.2.1) ∧ kG μ1 b (oux sl ou M.2.1) M.2.1 taken M.2.2.1 M.2.2.2.1 ∧ pw_fr μ μ1 (pw_inP b M.2.1 ou) ∧ dOK M.1 (sl ++ ou) (Dx M.1 ou M.2.2.2.2 D M.2.1) ∧ dN M.1 (Dx M.1 ou M.2.2.2.2 D M.2.1) ∧ dS (Dx M.1 ou M.2.2.2.2 D M.2.1)) ⟨0, μ, rfl, rfl, hS, hE, hF, hGG, pw_fr.rfl, ok, hn, hs⟩ ?_ ?_
  · rintro n a ⟨i, μ1, rfl, hni, kS1, kE1, kF1, kG1, g1, ok1, n1, s1⟩
    dsimp only
    rw [kG_g1 kG1, Option.bind_some]
    by_cases c : i < M.2.1
    · have hi6 : i < 6 := by omega
      have eo : (oux sl ou i).getD i 0 = ou.getD i 0 := by rw [oux_getD ap.2.1 i (by omega), if_neg (Nat.lt_irrefl _)]
      have es : (slx sl ou i).getD i 0 = sl.getD i 0 := by rw [slx_getD ap.1 i (by omega), if_neg (Nat.lt_irrefl _)]
      obtain ⟨fx1, fx2⟩ := φx_at (φ := M.1) ap i (by omega)
      have fo : φx M.1 sl ou i (ou.getD i 0) = M.1 (ou.getD i 0) := fx1 _ (fun o ho hc => absurd (ap.2.2.2.1 i o (by omega) (by omega) hc) (by omega))
      have fsl : φx M.1 sl ou i (sl.getD i 0) = M.1 (sl.getD i 0) := fx1 _ (fun o ho => ap.2.2.2.2 i o (by omega) (by omega))
      have oB := hbo i hi6
      have sB := hbs i hi6
      have qs := kF1 _ sB
      have qo := kF1 _ oB
      rw [fo] at qo
      have hVo := h1 _ oB
      obtain ⟨hch, hH⟩ := h3 i c
      obtain ⟨en1, en2⟩ := hch.ents hVo.2
      obtain ⟨μ2, e2, q2, g2⟩ := qF_publish (s := s) qo hVo.1.1 hH (fun r hr => ⟨en1 r hr, (hVo.1.2.2.2.2 r hr).2.1⟩) en2 (M.1 (sl.getD i 0)).1
      have g2' : pw_fr μ1 μ2 (pw_in (ou.getD i 0)) := g2.mono (fun a ha => by unfold pw_in; omega)
      have kS2 := kS1.fr g2' (oB.ne (by omega)) (oB.ne (by omega))
      have kE2 := kE1.fr g2' (oB.ne (by omega)) (oB.ne (by omega))
      have kG2 := kG1.fr g2' (oB.ne (by omega)) (oB.ne (by omega))
      have kF2 : kF μ2 b (φx M.1 sl ou (i + 1)) := kF1.upd oB g2' q2
      have hV2 : ∀ f, isB b f → qV (φx M.1 sl ou (i + 1) f) := by
        intro f hf
        obtain ⟨w1, w2⟩ := φx_at (φ := M.1) ap (i + 1) (by omega)
        by_cases hx : ∃ o, o < i + 1 ∧ f = ou.getD o 0
        · obtain ⟨o, ho, rfl⟩ := hx
          rw [w2 o ho]
          exact pt_pub_V (h1 _ hf).1 (h3 o (by omega)).1 (h1 _ hf).2
        · rw [w1 f (fun o ho hc => hx ⟨o, ho, hc⟩)]
          exact (h1 f hf).1
      have tr : ∀ Y, dOK M.1 (sl ++ ou) Y → dOK (φx M.1 sl ou (i + 1)) (sl ++ ou) Y := fun Y hY e he => by
        obtain ⟨c1, r, c2, c3⟩ := hY e he
        exact ⟨c1, r, by rw [(φx_rs _ _).1]; exact c2, c3⟩
      have tr' : ∀ Y, dOK (φx M.1 sl ou (i + 1)) (sl ++ ou) Y → dOK M.1 (sl ++ ou) Y := fun Y hY e he => by
        obtain ⟨c1, r, c2, c3⟩ := hY e he
        exact ⟨c1, r, by rw [(φx_rs _ _).1] at c2; exact c2, c3⟩
      have trn : ∀ Y, dN M.1 Y → dN (φx M.1 sl ou (i + 1)) Y := fun Y hY e he r hr => hY e he r (by rw [(φx_rs _ _).1] at hr; exact hr)
      have trn' : ∀ Y, dN (φx M.1 sl ou (i + 1)) Y → dN M.1 Y := fun Y hY e he r hr => hY e he r (by rw [(φx_rs _ _).1]; exact hr)
      have hrs := (φx_rs (φ := M.1) (sl := sl) (ou := ou) (ou.getD i 0) (i + 1)).1
      have hmemo : ou.getD i 0 ∈ sl ++ ou := List.mem_append_right _ (kG_getD hGG hi6).2.1
      obtain ⟨μ3, e3, kE3, g3, ok3, n3, s3⟩ := kE_copies (s := s) kE2 kF2 (tr _ ok1) hfs hV2 (trn _ n1) s1 oB hmemo (M.2.2.2.2 i) (fun j hj => by
        rw [hrs] at hj
        obtain ⟨i0, a1, a2, a3, r, r', a4, a5, a6⟩ := h8 i j c hj
        refine ⟨?_, by rw [a2]; exact hbs i0 (by omega), r, r', ?_, ?_, a6⟩
        · have h11 : (M.1 (ou.getD i 0)).2.2.2.2.length ≤ 11 := (hF _ oB).2.2.2.2.2.2.2.1
          have hz : ∀ o, o < 6 → ¬ (ou.getD i 0 + 6 + j = ou.getD o 0 ∨ ou.getD i 0 + 6 + j = ou.getD o 0 + 3 ∨ ou.getD i 0 + 6 + j = ou.getD o 0 + 4) := by
            intro o ho hc
            by_cases e : o = i
            · rw [e] at hc; omega
            · have := oB.ap (hbo o ho) (fun hx => e (ap.2.2.2.1 o i ho hi6 hx.symm))
              unfold pw_ap at this
              omega
          have hin : ∀ a, ¬ ((b + 3 ≤ a ∧ a < b + 105) ∨ (b + 109 ≤ a ∧ a < b + 211)) → ou.getD i 0 + 6 + j ≠ a := fun a ha e => ha (e ▸ oB.at (a := ou.getD i 0 + 6 + j) ⟨by omega, by omega⟩)
          rw [(g2 _ (fun hc => hz i hi6 hc)).2.2, (g1 _ (fun hc => by
            rcases hc with hc | hc | hc | ⟨o, ho, hc⟩
            · exact hin _ (by omega) hc
            · exact hin _ (by omega) hc
            · unfold pw_inD at hc
              rcases hc with hc | hc
              · exact hin _ (by omega) hc
              · exact hin _ (by omega) hc
            · exact hz o (by omega) hc)).2.2]
          exact hX i j c hj
        · rw [(φx_rs _ _).1, a2]
          exact a4
        · rw [hrs]
          exact a5)
      rw [hrs] at kE3 ok3 n3 s3
      have hrk : pn_rk (φx M.1 sl ou (i + 1) (ou.getD i 0)) = pn_rk (M.1 (ou.getD i 0)) := by
        funext j
        unfold pn_rk
        rw [hrs]
      rw [hrk] at kE3 ok3 n3 s3
      have kS3 := kS2.fr g3 (by unfold pw_inD; omega) (by unfold pw_inD; omega)
      have kG3 := kG2.fr g3 (by unfold pw_inD; omega) (by unfold pw_inD; omega)
      have kF3 := kF2.fr g3 (fun a ha hc => by unfold pw_inD at hc; omega)
      obtain ⟨μ4, e4, kS4, g4⟩ := kS_exchange (s := s) kS3 (i := i) (f := ou.getD i 0) (by omega) oB (fun h => by have := hat h; omega)
      rw [es] at e4
      have kG4 := kG3.fr g4 (by omega) (by omega)
      obtain ⟨μ5, e5, kG5, g5⟩ := kG_setRow (s := s) kG4 (i := i) (f := sl.getD i 0) hi6 sB
      have kS5 := kS4.fr g5 (by omega) (by omega)
      have kF5 := (kF3.fr g4 (fun a ha hc => by omega)).fr g5 (fun a ha hc => by omega)
      have kE5 := (kE3.fr g4 (by omega) (by omega)).fr g5 (by omega) (by omega)
      left
      refine ⟨n - 1, (nI (i + 1), (s, pw_lay (pw_σ b) μ5)), by omega, ?_, i + 1, μ5, rfl, by omega, kS5, kE5, kF5, kG5, (((g1.trans (g2.mono (fun a ha => ?_))).trans (g3.mono (fun a ha => Or.inr (Or.inr (Or.inl ha))))).trans (g4.mono (fun a ha => Or.inl ha))).trans (g5.mono (fun a ha => Or.inr (Or.inl ha))), tr' _ ok3, trn' _ n3, s3⟩
      · rw [if_neg (nI_ge c (by omega)), kG_g0 kG1, Option.bind_some, kG_row kG1 hi6, Option.bind_some, (kG_getD kG1 hi6).1, eo, kS_ob, Option.bind_some, kS_at' kS1 (by omega), Option.bind_some, es, if_neg (fun hc => nomatch hc), qF_ob qs, Option.bind_some, pf_number qs.1, Option.bind_some, Option.bind_some, qs.2.2.2.2.1, fsl, qF_ob qo, Option.bind_some, e2, Option.bind_some, e3, Option.bind_some, kG_g0 kG3, Option.bind_some, kS_ob, Option.bind_some, e4, Option.bind_some]
        dsimp only
        rw [qF_ob ((kF3.fr g4 (fun a ha hc => by omega)) _ sB), Option.bind_some, e5, Option.bind_some, nI_1]
      · exact Or.inr (Or.inr (Or.inr ⟨i, c, ha⟩))
    · right
      have hi : i = M.2.1 := by omega
      subst hi
      exact ⟨_, if_pos (nI_le (by omega) (by omega)), nI _, μ1, rfl, kS1, kE1, kF1, kG1, g1, ok1, n1, s1⟩
  · rintro a ⟨i, μ1, rfl, kS1, kE1, kF1, kG1, g1, ok1, n1, s1⟩
    exact hG μ1 i kS1 kE1 kF1 kG1 g1 ok1 n1 s1
end
