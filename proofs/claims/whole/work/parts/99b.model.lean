/-! ===== the reference begins anew from records, on ===== -/
/-- what opening a row touches -/
def mCo (b i a c : Nat) : Prop := (mC b i a c ∧ a ≠ b + 212) ∨ mCd b a c
section
variable {I I' : mN} {L L' : mL} {ρ : mQ} {s : Option Nat} {b n i : Nat} {E : qE} {t : qf} {D : List (Nat × Nat × Nat)} {nm : Nat → Nat}
theorem mC_d {a c : Nat} (h : mC b i a c) : ¬ mCd b a c := fun hc => by
  unfold mC at h
  unfold mCd at hc
  omega
theorem M_ent2 (hP : mP b ρ) (hd : mDir I L b n E) (hr : dR nm n E D) (hs : dS D) (hl : D.length < 66) {k x f j : Nat} (h1 : 1 ≤ k) (h4 : k ≤ 4) (hx : x < 2 ^ (8 * k)) (hfn : nm f < 2 ^ 20) (hj : j < 2 ^ 20) :
    (∃ I' L', f_M_set (s, pw_lay (pw_σ b) (I, L, ρ)) (some (b + 211)) (lN x) (nI k) (nI (nm f)) (nI j) = some (s, pw_lay (pw_σ b) (I', L', ρ)) ∧ (∃ n' E', mDir I' L' b n' E' ∧ dR nm n' E' (pe_en (pn_rank k x) (f, j) false D)) ∧ mfr I I' (mCd b) ∧ ∀ a, a ≠ b + 225 → L' a = L a) ∧
    (∃ I' L', f_M_unset (s, pw_lay (pw_σ b) (I, L, ρ)) (some (b + 211)) (lN x) (nI k) = some (s, pw_lay (pw_σ b) (I', L', ρ)) ∧ (∃ n' E', mDir I' L' b n' E' ∧ dR nm n' E' (pe_en (pn_rank k x) (f, j) true D)) ∧ mfr I I' (mCd b) ∧ ∀ a, a ≠ b + 225 → L' a = L a) :=
  M_entered (s := s) (φ := fun f => (nm f, [], 0, [], [])) hP hd hr hs hl h1 h4 hx hfn hj
theorem M_openRecords (hP : mP b ρ) (h : mW I b i t) (hz : mZ t) (hB : qB t.2.1) (hi : i < 12) {f : Nat} (hn : I (b + 212) i = nI (nm f)) (hnf : nm f < 2 ^ 20) (hd : ∃ n E, mDir I L b n E ∧ dR nm n E D) (hs : dS D) (hl : D.length + 11 ≤ 66) {T : qf} (hT : T.2.2.2.2 = (pn_lrn t.2.1 11 0).1) :
    ∃ I' L', f_M_openRecords (s, pw_lay (pw_σ b) (I, L, ρ)) (some (b + 211)) (nI i) = some (s, pw_lay (pw_σ b) (I', L', ρ)) ∧ mW I' b i (t.1, t.2.1.take (pn_lrn t.2.1 11 0).2, t.2.2.1, t.2.2.2.1, (pn_lrn t.2.1 11 0).1) ∧ (∃ n E, mDir I' L' b n E ∧ dR nm n E (pd_en T f (pn_lrn t.2.1 11 0).1.length D)) ∧ mfr I I' (mCo b i) ∧ ∀ a, a ≠ b + 225 → L' a = L a := by
  have hlB := hz.1
  obtain ⟨ls1, ls2, ls3, ls4⟩ := pn_lrn_spec hB hlB 11 0 (Nat.zero_le _)
  unfold f_M_openRecords
  rw [mg_9 hP, Option.bind_some, ms_219 hi, Option.bind_some]
  generalize hrs : (pn_lrn t.2.1 11 0).1 = rs at hT ls1 ls3 ls4 ⊢
  generalize hed : (pn_lrn t.2.1 11 0).2 = ed at ls1 ls2 ⊢
  refine pw_loopG (G := fun x => ∃ I' L', x = some (s, pw_lay (pw_σ b) (I', L', ρ)) ∧ mW I' b i (t.1, t.2.1.take ed, t.2.2.1, t.2.2.2.1, rs) ∧ (∃ n E, mDir I' L' b n E ∧ dR nm n E (pd_en T f rs.length D)) ∧ mfr I I' (mCo b i) ∧ ∀ a, a ≠ b + 225 → L' a = L a) 11
    (fun m a => ∃ p j I1 L1, a = (nI p, (s, pw_lay (pw_σ b) (I1, L1, ρ))) ∧ mW I1 b i (t.1, t.2.1, t.2.2.1, t.2.2.2.1, rs.take j) ∧ (∃ n E, mDir I1 L1 b n E ∧ dR nm n E (pd_en T f j D)) ∧ dS (pd_en T f j D) ∧ mfr I I1 (mCo b i) ∧ (∀ a, a ≠ b + 225 → L1 a = L a) ∧ j + m = 11 ∧ 9 * j ≤ p ∧ p ≤ t.2.1.length ∧ rs = rs.take j ++ (pn_lrn t.2.1 m p).1 ∧ ed = (pn_lrn t.2.1 m p).2 ∧ j ≤ rs.length)
    (fun a => ∃ I1 L1, a = (nI ed, (s, pw_lay (pw_σ b) (I1, L1, ρ))) ∧ mW I1 b i (t.1, t.2.1, t.2.2.1, t.2.2.2.1, rs) ∧ (∃ n E, mDir I1 L1 b n E ∧ dR nm n E (pd_en T f rs.length D)) ∧ mfr I I1 (mCo b i) ∧ ∀ a, a ≠ b + 225 → L1 a = L a) ?_ ?_ ?_
  · obtain ⟨n, E, d1, d2⟩ := hd
    refine ⟨0, 0, _, L, rfl, h.count0, ⟨n, E, d1.fr (mfr.uI (Q := mC b i) (Or.inl ⟨by omega, rfl⟩)) (fun a k ha hc => mC_d hc (by unfold mCd; omega)), d2⟩, hs, mfr.uI (Or.inl ⟨Or.inl ⟨by omega, rfl⟩, by omega⟩), fun _ _ => rfl, rfl, Nat.le_refl _, Nat.zero_le _, hrs.symm, hed.symm, Nat.zero_le _⟩
  · rintro m a ⟨p, j, I1, L1, rfl, w1, ⟨n1, E1, d1, r1⟩, s1, g1, l1, hjm, h9, hpB, ers, eed, hjl⟩
    dsimp only
    rw [mM_ob, Option.bind_some, M_isRecord hP w1 ⟨hz.1, hz.2.1, by show (rs.take j).length ≤ 11; rw [List.length_take]; omega⟩ hB hi (by omega), Option.bind_some]
    dsimp only
    by_cases c0 : pn_snd t.2.1 p = 0
    · right
      have e1 : (pn_lrn t.2.1 m p) = ([], p) := by
        cases m with
        | zero => rfl
        | succ m => rw [pn_lrn, if_pos c0]
      rw [e1] at ers eed
      dsimp only at ers eed
      rw [List.append_nil] at ers
      have hjr : j = rs.length := by
        have := congrArg List.length ers
        rw [List.length_take] at this
        omega
      rw [← ers] at w1
      refine ⟨_, if_pos (by rw [if_pos c0]), I1, L1, by rw [eed], w1, ⟨n1, E1, d1, by rw [← hjr]; exact r1⟩, g1, l1⟩
    · obtain ⟨q1, q2, q3, q4, q5, q6⟩ := pn_snd_spec c0
      cases m with
      | zero => omega
      | succ m =>
        rw [pn_lrn, if_neg c0] at ers eed
        dsimp only at ers eed
        have hk := hB.getD (p + 6)
        have hv := hB.getD (p + 7)
        have hlen := pn_len_le q4 q5
        have hge := pn_len_ge (t.2.1.getD (p + 6) 0) (t.2.1.getD (p + 7) 0)
        have hnum := pn_num_lt hB.getD (p + 8) (t.2.1.getD (p + 6) 0)
        have b6 := w1.2.2.1 (p + 6) (by dsimp only; omega)
        have b7 := w1.2.2.1 (p + 7) (by dsimp only; omega)
        have htj : (rs.take j).length = j := by rw [List.length_take]; omega
        have hrj : rs[j]? = some (p, t.2.1.getD (p + 6) 0, pn_num (fun i => t.2.1.getD i 0) (p + 8) (t.2.1.getD (p + 6) 0), t.2.1.getD (p + 7) 0) := by
          rw [ers, List.getElem?_append_right (by omega), htj, Nat.sub_self]
          rfl
        have hjl2 : j < rs.length := (List.getElem?_eq_some_iff.mp hrj).1
        have ersj : rs.take (j + 1) = rs.take j ++ [(p, t.2.1.getD (p + 6) 0, pn_num (fun i => t.2.1.getD i 0) (p + 8) (t.2.1.getD (p + 6) 0), t.2.1.getD (p + 7) 0)] := by rw [List.take_add_one, hrj]; rfl
        obtain ⟨I2, e2, w2, g2⟩ := M_note (s := s) (L := L1) hP w1 hi (by dsimp only; rw [htj]; omega) p (t.2.1.getD (p + 6) 0) (pn_num (fun i => t.2.1.getD i 0) (p + 8) (t.2.1.getD (p + 6) 0)) (t.2.1.getD (p + 7) 0)
        dsimp only at w2 g2
        rw [← ersj] at w2
        have gQ : ∀ a c, ((a = b + 219 ∧ c = i) ∨ ((a = b + 220 ∨ a = b + 221 ∨ a = b + 222) ∧ c = 12 * i + (rs.take j).length)) → mC b i a c ∧ a ≠ b + 212 := fun a c hc => by
          rw [htj] at hc
          unfold mC
          omega
        have g2' : mfr I1 I2 (fun a c => mC b i a c ∧ a ≠ b + 212) := g2.mono gQ
        have d2 : mDir I2 L1 b n1 E1 := d1.fr g2' (fun a k ha hc => mC_d hc.1 (by unfold mCd; omega))
        have hDl := pd_en_len T f D j
        obtain ⟨s1', s2'⟩ := M_ent2 (s := s) hP d2 r1 s1 (by omega) (k := t.2.1.getD (p + 6) 0) (x := pn_num (fun i => t.2.1.getD i 0) (p + 8) (t.2.1.getD (p + 6) 0)) (f := f) (j := j) q3 q4 hnum hnf (by omega)
        have eT : pd_en T f (j + 1) D = pe_en (pn_rank (t.2.1.getD (p + 6) 0) (pn_num (fun i => t.2.1.getD i 0) (p + 8) (t.2.1.getD (p + 6) 0))) (f, j) (decide (t.2.1.getD (p + 7) 0 = 255)) (pd_en T f j D) := by
          rw [pd_en]
          unfold pn_rk
          rw [hT, getD_of hrj]
        -- the entering
        have ent : ∃ I3 L3, (if nI (t.2.1.getD (p + 7) 0) = (255 : Int32) then (aw_obj (s, pw_lay (pw_σ b) (I2, L1, ρ)) (some (b + 211)) 7).bind fun v16 => (f_M_unset (s, pw_lay (pw_σ b) (I2, L1, ρ)) (some (b + 211)) (lN (pn_num (fun i => t.2.1.getD i 0) (p + 8) (t.2.1.getD (p + 6) 0))) (nI (t.2.1.getD (p + 6) 0))).bind fun v17 => some v17 else (aw_gR (s, pw_lay (pw_σ b) (I2, L1, ρ)) (some (b + 211)) 7 2).bind fun v18 => (aw_aI (s, pw_lay (pw_σ b) (I2, L1, ρ)) v18 1 (nI i)).bind fun v19 => (aw_gR (s, pw_lay (pw_σ b) (I2, L1, ρ)) (some (b + 211)) 7 9).bind fun v20 => (aw_aI (s, pw_lay (pw_σ b) (I2, L1, ρ)) v20 1 (nI i)).bind fun v21 => (aw_obj (s, pw_lay (pw_σ b) (I2, L1, ρ)) (some (b + 211)) 7).bind fun v22 => (f_M_set (s, pw_lay (pw_σ b) (I2, L1, ρ)) (some (b + 211)) (lN (pn_num (fun i => t.2.1.getD i 0) (p + 8) (t.2.1.getD (p + 6) 0))) (nI (t.2.1.getD (p + 6) 0)) v19 (v21 - (1 : Int32))).bind fun v23 => some v23 : Option aw_W) = some (s, pw_lay (pw_σ b) (I3, L3, ρ)) ∧ (∃ n' E', mDir I3 L3 b n' E' ∧ dR nm n' E' (pd_en T f (j + 1) D)) ∧ mfr I2 I3 (mCd b) ∧ ∀ a, a ≠ b + 225 → L3 a = L1 a := by
          rw [eT]
          have e255 : (nI (t.2.1.getD (p + 7) 0) = (255 : Int32)) ↔ t.2.1.getD (p + 7) 0 = 255 := nI_eq (b := 255) (by omega) (by decide)
          by_cases c5 : t.2.1.getD (p + 7) 0 = 255
          · obtain ⟨I3, L3, x1, x2, x3, x4⟩ := s2'
            rw [if_pos (e255.mpr c5), mM_ob, Option.bind_some, x1, decide_eq_true c5]
            exact ⟨I3, L3, rfl, x2, x3, x4⟩
          · obtain ⟨I3, L3, x1, x2, x3, x4⟩ := s1'
            have hn2 : I2 (b + 212) i = nI (nm f) := by
              rw [g2' _ _ (fun hc => hc.2 rfl), g1 _ _ (fun hc => by
                rcases hc with hc | hc
                · exact hc.2 rfl
                · unfold mCd at hc; omega)]
              exact hn
            have hc2 : I2 (b + 219) i - 1 = nI j := by
              rw [w2.2.2.2.2.2.2.1]
              show nI (rs.take (j + 1)).length - 1 = nI j
              rw [List.length_take, Nat.min_eq_left (by omega), nI_pred]
            rw [if_neg (fun hc => c5 (e255.mp hc)), mg_2 hP, Option.bind_some, ma_212 hi, Option.bind_some, hn2, mg_9 hP, Option.bind_some, ma_219 hi, Option.bind_some, hc2, mM_ob, Option.bind_some, x1, decide_eq_false c5]
            exact ⟨I3, L3, rfl, x2, x3, x4⟩
        obtain ⟨I3, L3, x1, x2, x3, x4⟩ := ent
        have w3 : mW I3 b i (t.1, t.2.1, t.2.2.1, t.2.2.2.1, rs.take (j + 1)) := w2.fr ⟨hz.1, hz.2.1, by show (rs.take (j + 1)).length ≤ 11; rw [List.length_take]; omega⟩ x3 (fun a c hc => mC_d hc)
        have e1 := M_rnum (s := s) (L := L1) (ρ := ρ) w1 hi hB hlB (p := p + 8) (k := t.2.1.getD (p + 6) 0) (by dsimp only; omega)
        left
        refine ⟨m, (nI (p + pn_snd t.2.1 p), (s, pw_lay (pw_σ b) (I3, L3, ρ))), Nat.lt_succ_self m, ?_, p + pn_snd t.2.1 p, j + 1, I3, L3, rfl, w3, x2, by rw [eT]; exact s1.en, (g1.trans (g2'.mono (fun a c hc => Or.inl hc))).trans (x3.mono (fun a c hc => Or.inr hc)), fun a ha => (x4 a ha).trans (l1 a ha), by omega, by omega, by omega, ?_, eed, by omega⟩
        · have b7' : I2 (b + 215) (100 * i + (p + 7)) = nI (t.2.1.getD (p + 7) 0) := w2.2.2.1 (p + 7) (by dsimp only; omega)
          have b7'' : I3 (b + 215) (100 * i + (p + 7)) = nI (t.2.1.getD (p + 7) 0) := w3.2.2.1 (p + 7) (by dsimp only; omega)
          rw [if_neg (show ¬ (if pn_snd t.2.1 p = 0 then (0 : Int32) else 1) = 0 by rw [if_neg c0]; decide), mg_5 hP, Option.bind_some, nI_100, show nI (100 * i + p) + (6 : Int32) = nI (100 * i + (p + 6)) from nI_add _ 6, ma_215 (by omega), Option.bind_some, b6, Option.bind_some]
          dsimp only
          rw [show nI (100 * i + p) + (8 : Int32) = nI (100 * i + (p + 8)) from nI_add _ 8, e1, Option.bind_some, Option.bind_some, show nI (100 * i + p) + (7 : Int32) = nI (100 * i + (p + 7)) from nI_add _ 7, ma_215 (by omega), Option.bind_some, b7, Option.bind_some]
          dsimp only
          rw [e2, Option.bind_some, mg_5 hP, Option.bind_some, ma_215 (by omega), Option.bind_some, b7', x1, Option.bind_some, mg_5 hP, Option.bind_some, ma_215 (by omega), Option.bind_some, b7'', pm_lengthOf (by omega), Option.bind_some, nI_add, q1]
        · rw [ersj, List.append_assoc]
          exact ers
  · rintro a ⟨I1, L1, rfl, w1, d1, g1, l1⟩
    dsimp only
    rw [mg_3 hP, Option.bind_some, ms_213 hi]
    refine ⟨_, L1, rfl, w1.take (e := ed) (by dsimp only; omega), ?_, g1.trans (mfr.uI (Or.inl ⟨Or.inl ⟨by omega, rfl⟩, by omega⟩)), l1⟩
    obtain ⟨n2, E2, y1, y2⟩ := d1
    exact ⟨n2, E2, y1.fr (mfr.uI (Q := mC b i) (Or.inl ⟨by omega, rfl⟩)) (fun a k ha hc => mC_d hc (by unfold mCd; omega)), y2⟩
end
