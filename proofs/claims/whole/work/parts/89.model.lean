/-! ===== the reference appends, on ===== -/
section
variable {I I' : mN} {L : mL} {ρ : mQ} {s : Option Nat} {b : Nat} {t : qf} {i : Nat} {φ : Nat → qf} {sl ou : List Nat} {cnt last time : Nat} {act : Bool}
theorem M_append (hP : mP b ρ) (hFl : mFl I b cnt act last time) (hF : mF I b φ sl cnt) (hsl : ∀ i j, i < 6 → j < 6 → sl.getD i 0 = sl.getD j 0 → i = j) (h6 : cnt ≤ 6) (ha : act = true → 0 < cnt) (ht : time < 65536) (hz : ∀ i, i < cnt → mZ (φ (sl.getD i 0)) ∧ qB (φ (sl.getD i 0)).2.1) {k v : Nat} (h1 : 1 ≤ k) (hk : k ≤ 4) (hv : v ≤ 8 ∨ v = 255) (key value : Int64)
    (hch : act = true → (φ (sl.getD (cnt - 1) 0)).2.1.length + pn_len k v ≤ 100 → (φ (sl.getD (cnt - 1) 0)).2.2.2.2.length < 11) (hcase : pk_fit φ sl cnt act (pn_len k v) ∨ cnt < 6) :
    ∃ I', f_M_append (s, pw_lay (pw_σ b) (I, L, ρ)) (some (b + 211)) key (nI k) value (nI v) = some (s, pw_lay (pw_σ b) (I', L, ρ)) ∧ mFl I' b (pk_tgt φ sl cnt act last (pn_len k v)).2.2.1 true (pk_tgt φ sl cnt act last (pn_len k v)).2.2.2 ((time + 1) % 65536) ∧
      mF I' b (pu (pk_tgt φ sl cnt act last (pn_len k v)).2.1 (pk_tgt φ sl cnt act last (pn_len k v)).1 (pt_app ((pk_tgt φ sl cnt act last (pn_len k v)).2.1 (pk_tgt φ sl cnt act last (pn_len k v)).1) time k (pn_cut key k) v value)) sl (pk_tgt φ sl cnt act last (pn_len k v)).2.2.1 ∧ mfr I I' (mCa b) := by
  obtain ⟨f1, f2, f3, f4⟩ := hFl
  have hlen := pn_len_le hk hv
  have rest : ∀ (J : mN) (ψ : Nat → qf) (r l : Nat), r < 6 → mFl J b (r + 1) true l time → mF J b ψ sl (r + 1) → mfr I J (mCa b) → (ψ (sl.getD r 0)).2.2.2.2.length < 11 → qB (ψ (sl.getD r 0)).2.1 → (ψ (sl.getD r 0)).2.1.length + pn_len k v ≤ 100 → (∀ i, i < r → mZ (ψ (sl.getD i 0))) → ∀ J', mW J' b r ((ψ (sl.getD r 0)).1, (ψ (sl.getD r 0)).2.1 ++ pn_rec time k key v value, (ψ (sl.getD r 0)).2.2.1, (ψ (sl.getD r 0)).2.2.2.1, (ψ (sl.getD r 0)).2.2.2.2 ++ [((ψ (sl.getD r 0)).2.1.length, k, pn_cut key k, v)]) → J' (b + 211) 23 = nI ((time + 1) % 65536) → mfr J J' (fun a c => (a = b + 211 ∧ c = 23) ∨ (mC b r a c ∧ a ≠ b + 212)) → mFl J' b (r + 1) true l ((time + 1) % 65536) ∧ mF J' b (pu ψ (sl.getD r 0) (pt_app (ψ (sl.getD r 0)) time k (pn_cut key k) v value)) sl (r + 1) ∧ mfr I J' (mCa b) := by
    intro J ψ r l hr6 hfl hf hfr hc hB hl hzz J' w htm g
    have hnum : J' (b + 212) r = J (b + 212) r := g _ _ (fun h => by omega)
    obtain ⟨g1, g2, g3, g4⟩ := hfl
    have fld : ∀ c, c ≠ 23 → J' (b + 211) c = J (b + 211) c := fun c hc => g _ _ (fun h => by unfold mC at h; omega)
    refine ⟨⟨by rw [fld 1 (by decide)]; exact g1, by rw [fld 20 (by decide)]; exact g2, by rw [fld 22 (by decide)]; exact g3, htm⟩, fun i hi => ?_, hfr.trans (g.mono (fun a c h => ?_))⟩
    · by_cases c : i = r
      · rw [c, pu_at]
        refine ⟨?_, ?_⟩
        · rw [hnum]
          exact (hf r (by omega)).1
        · unfold pt_app
          rw [pn_rec_cut time hk]
          exact w
      · rw [pu_ne (fun h => c (hsl i r (by omega) hr6 h))]
        obtain ⟨q1, q2⟩ := hf i hi
        refine ⟨?_, q2.fr (hzz i (by omega)) g (fun a c' hc' h => ?_)⟩
        · rw [g _ _ (fun h => by unfold mC at h; omega)]
          exact q1
        · rcases h with h | h
          · unfold mC at hc'; omega
          · exact mC_ne c hc' h.1
    · rcases h with h | h
      · exact Or.inl ⟨h.1, by omega⟩
      · exact Or.inr ⟨r, hr6, h.1⟩
  -- a new row
  have new : cnt < 6 → ∀ (J : mN), mfr I J (mCa b) → (∀ c, J (b + 211) c = I (b + 211) c) → mF J b (pu_sync φ sl cnt act) sl cnt → (∀ i, i < cnt → mZ (pu_sync φ sl cnt act (sl.getD i 0))) → ∃ J2, ((aw_pV (s, pw_lay (pw_σ b) (J, L, ρ)) (some (b + 211)) 7 20 (.int (1 : Int32))).bind fun v11 =>
      (aw_gI v11 (some (b + 211)) 7 1).bind fun v12 =>
      (aw_obj v11 (some (b + 211)) 7).bind fun v13 =>
      (f_M_clearRow v11 (some (b + 211)) v12).bind fun v14 =>
      (aw_gI v14 (some (b + 211)) 7 22).bind fun v15 =>
      (aw_pV v14 (some (b + 211)) 7 22 (.int (v15 + (1 : Int32)))).bind fun v16 =>
      (aw_gR v16 (some (b + 211)) 7 2).bind fun v17 =>
      (aw_gI v16 (some (b + 211)) 7 1).bind fun v18 =>
      (aw_gI v16 (some (b + 211)) 7 22).bind fun v19 =>
      (aw_sI v16 v17 1 v18 v19).bind fun v20 =>
      (aw_gI v20 (some (b + 211)) 7 1).bind fun v21 =>
      (aw_pV v20 (some (b + 211)) 7 1 (.int (v21 + (1 : Int32)))).bind fun v22 =>
      some v22) = some (s, pw_lay (pw_σ b) (J2, L, ρ)) ∧ mFl J2 b (cnt + 1) true (last + 1) time ∧ mF J2 b (pu_new φ sl cnt act last) sl (cnt + 1) ∧ mfr I J2 (mCa b) := by
    intro hc6 J hJ hfld hf hzz
    obtain ⟨J1, e1, w1, g1⟩ := M_clearRow (s := s) (L := L) (I := uI J (b + 211) 20 1) hP (i := cnt) (by omega) (last + 1)
    have J1f : ∀ c, J1 (b + 211) c = if c = 20 then 1 else I (b + 211) c := fun c => by
      rw [g1 _ _ (fun h => by omega)]
      by_cases h : c = 20
      · rw [if_pos h, h, uI_at]
      · rw [if_neg h, uI_ne (by omega), hfld]
    refine ⟨uI (uI (uI J1 (b + 211) 22 (nI (last + 1))) (b + 212) cnt (nI (last + 1))) (b + 211) 1 (nI (cnt + 1)), ?_, ?_, fun i hi => ?_, ?_⟩
    · rw [mw_20, Option.bind_some, mf_1, Option.bind_some, uI_ne (by omega), hfld, f1, mM_ob, Option.bind_some, e1, Option.bind_some, mf_22, Option.bind_some, J1f, if_neg (by decide), f3, nI_1, mw_22, Option.bind_some, mg_2 hP, Option.bind_some, mf_1, Option.bind_some, mf_22, Option.bind_some, uI_at, uI_ne (by omega), J1f, if_neg (by decide), f1, ms_212 (by omega), Option.bind_some, mf_1, Option.bind_some, uI_ne (by omega), uI_ne (by omega), J1f, if_neg (by decide), f1, nI_1, mw_1]
      rfl
    · refine ⟨uI_at, ?_, ?_, ?_⟩
      · rw [uI_ne (by omega), uI_ne (by omega), uI_ne (by omega), J1f, if_pos rfl, if_pos rfl]
      · rw [uI_ne (by omega), uI_ne (by omega), uI_at]
      · rw [uI_ne (by omega), uI_ne (by omega), uI_ne (by omega), J1f, if_neg (by decide)]
        exact f4
    · unfold pu_new
      by_cases c : i = cnt
      · rw [c, pu_at]
        refine ⟨?_, (((w1.fld _ _).num _ _).fld _ _)⟩
        rw [uI_ne (by omega), uI_at]
      · rw [pu_ne (fun h => c (hsl i cnt (by omega) hc6 h))]
        obtain ⟨q1, q2⟩ := hf i (by omega)
        refine ⟨?_, ((((q2.fld 20 1).fr (hzz i (by omega)) g1 (fun a k hk hc => ?_)).fld _ _).num _ _).fld _ _⟩
        · rw [uI_ne (by omega), uI_ne (by omega), uI_ne (by omega), g1 _ _ (fun h => by omega), uI_ne (by omega)]
          exact q1
        · unfold mC at hk
          omega
    · refine (((((hJ.trans (mfr.uI (Or.inl ⟨rfl, by omega⟩))).trans (g1.mono (fun a c h => Or.inr ⟨cnt, hc6, ?_⟩))).trans (mfr.uI (Or.inl ⟨rfl, by omega⟩))).trans (mfr.uI (Or.inr ⟨cnt, hc6, Or.inl ⟨by omega, rfl⟩⟩))).trans (mfr.uI (Or.inl ⟨rfl, by omega⟩)))
      unfold mC
      omega
  unfold f_M_append
  rw [pm_lengthOf (by omega), Option.bind_some, mf_20, Option.bind_some, f2]
  have hnil : pu_new φ sl cnt act last (sl.getD cnt 0) = (last + 1, [], 0, [], []) := pu_at
  have newZ : ∀ i, i < cnt → mZ (pu_new φ sl cnt act last (sl.getD i 0)) ∧ mZ (pu_sync φ sl cnt act (sl.getD i 0)) := fun i hi => by
    have hs : mZ (pu_sync φ sl cnt act (sl.getD i 0)) := by
      unfold pu_sync
      split
      · by_cases h9 : sl.getD i 0 = sl.getD (cnt - 1) 0
        · rw [h9, pu_at]
          have := (hz (cnt - 1) (by omega)).1
          exact this
        · rw [pu_ne h9]
          exact (hz i hi).1
      · exact (hz i hi).1
    refine ⟨?_, hs⟩
    unfold pu_new
    by_cases h9 : sl.getD i 0 = sl.getD cnt 0
    · rw [h9, pu_at]
      exact ⟨Nat.zero_le _, Nat.zero_le _, Nat.zero_le _⟩
    · rw [pu_ne h9]
      exact hs
  cases act with
  | false =>
    simp only [Bool.false_eq_true, if_false, if_true]
    have hnf : ¬ pk_fit φ sl cnt false (pn_len k v) := fun h => nomatch h.1
    have hc6 : cnt < 6 := hcase.elim (fun h => absurd h hnf) id
    rw [pk_tgt_new hnf]
    dsimp only
    obtain ⟨J2, e2, q1, q2, q3⟩ := new hc6 I mfr.rfl (fun _ => rfl) (by unfold pu_sync; exact hF) (fun i hi => (newZ i hi).2)
    rw [Option.bind_some, if_pos (show (0 : Int32) = 0 from rfl), Option.bind_some, e2, Option.bind_some]
    obtain ⟨J3, e3, t3, w3, g3⟩ := M_appRow (s := s) (L := L) hP (r := cnt) hc6 (q2 cnt (by omega)).2 q1.1 q1.2.2.2 ht (by rw [hnil]; exact (by decide : 0 < 11)) (by rw [hnil]; exact fun _ h => (nomatch h)) hk hv key value (by rw [hnil]; show 0 + _ ≤ 100; omega)
    obtain ⟨x1, x2, x3⟩ := rest J2 _ cnt _ hc6 q1 q2 q3 (by rw [hnil]; exact (by decide : 0 < 11)) (by rw [hnil]; exact fun _ h => (nomatch h)) (by rw [hnil]; show 0 + _ ≤ 100; omega) (fun i hi => (newZ i hi).1) J3 w3 t3 g3
    exact ⟨J3, e3, x1, x2, x3⟩
  | true =>
    have hpos := ha rfl
    obtain ⟨r, rfl⟩ : ∃ r, cnt = r + 1 := ⟨cnt - 1, by omega⟩
    rw [Nat.add_sub_cancel] at hch
    have hr6 : r < 6 := by omega
    obtain ⟨n1, w1⟩ := hF r (by omega)
    have hzr := hz r (by omega)
    have e10 : ¬ (1 : Int32) = 0 := by decide
    simp only [if_true, if_neg e10]
    rw [mg_3 hP, Option.bind_some, mf_1, Option.bind_some, f1, nI_pred, ma_213 (by omega), Option.bind_some, w1.1, nI_add]
    by_cases hfit : (φ (sl.getD r 0)).2.1.length + pn_len k v ≤ 100
    · have hpf : pk_fit φ sl (r + 1) true (pn_len k v) := ⟨rfl, hfit⟩
      rw [pk_tgt_fit hpf]
      dsimp only
      rw [if_pos (show nI ((φ (sl.getD r 0)).2.1.length + pn_len k v) ≤ 100 from nI_le (b := 100) hfit (by decide)), Option.bind_some]
      obtain ⟨J3, e3, t3, w3, g3⟩ := M_appRow (s := s) (L := L) hP (r := r) hr6 w1 f1 f4 ht (hch rfl hfit) hzr.2 hk hv key value hfit
      obtain ⟨x1, x2, x3⟩ := rest I φ r last hr6 ⟨f1, f2, f3, f4⟩ hF mfr.rfl (hch rfl hfit) hzr.2 hfit (fun i hi => (hz i (by omega)).1) J3 w3 t3 g3
      exact ⟨J3, e3, x1, x2, x3⟩
    · have hnf : ¬ pk_fit φ sl (r + 1) true (pn_len k v) := fun h => hfit h.2
      have hc6 : r + 1 < 6 := hcase.elim (fun h => absurd h hnf) id
      have hzl := hzr.1.1
      rw [pk_tgt_new hnf]
      dsimp only
      rw [if_neg (show ¬ nI ((φ (sl.getD r 0)).2.1.length + pn_len k v) ≤ 100 from fun hc => hfit ((nI_leI (b := 100) (by omega) (by decide)).mp hc))]
      rw [Option.bind_some, if_neg (show ¬ (1 : Int32) = 0 by decide), mg_4 hP, Option.bind_some, Option.bind_some, Option.bind_some, Option.bind_some, nI_pred, ma_213 (by omega), Option.bind_some, w1.1, ms_214 (by omega), Option.bind_some, Option.bind_some]
      obtain ⟨J2, e2, q1, q2, q3⟩ := new hc6 (uI I (b + 214) r (nI (φ (sl.getD r 0)).2.1.length)) (mfr.uI (Or.inr ⟨r, hr6, Or.inl ⟨by omega, rfl⟩⟩)) (fun c => uI_ne (by omega)) (fun i hi => by
        unfold pu_sync
        rw [if_pos rfl, Nat.add_sub_cancel]
        by_cases c : i = r
        · rw [c, pu_at]
          exact ⟨by rw [uI_ne (by omega)]; exact n1, w1.sync⟩
        · rw [pu_ne (fun h => c (hsl i r (by omega) hr6 h))]
          obtain ⟨y1, y2⟩ := hF i hi
          exact ⟨by rw [uI_ne (by omega)]; exact y1, y2.fr (hz i hi).1 (mfr.uI (Q := mC b r) (Or.inl ⟨by omega, rfl⟩)) (fun a k hk => mC_ne c hk)⟩) (fun i hi => (newZ i hi).2)
      rw [e2, Option.bind_some]
      obtain ⟨J3, e3, t3, w3, g3⟩ := M_appRow (s := s) (L := L) hP (r := r + 1) hc6 (q2 (r + 1) (by omega)).2 q1.1 q1.2.2.2 ht (by rw [hnil]; exact (by decide : 0 < 11)) (by rw [hnil]; exact fun _ h => (nomatch h)) hk hv key value (by rw [hnil]; show 0 + _ ≤ 100; omega)
      obtain ⟨x1, x2, x3⟩ := rest J2 _ (r + 1) _ hc6 q1 q2 q3 (by rw [hnil]; exact (by decide : 0 < 11)) (by rw [hnil]; exact fun _ h => (nomatch h)) (by rw [hnil]; show 0 + _ ≤ 100; omega) (fun i hi => (newZ i hi).1) J3 w3 t3 g3
      exact ⟨J3, e3, x1, x2, x3⟩
end
