/-! ===== the reference is opened ===== -/
theorem pt_learn_sync (t : qf) (y : Nat) (h : Bool) : pt_learn (t.1, t.2.1, y, t.2.2.2) h = pt_learn t h := rfl
theorem pt_learn_pu (φ : Nat → qf) (sl : List Nat) (cnt : Nat) (act h : Bool) (f : Nat) : pt_learn (pu_sync φ sl cnt act f) h = pt_learn (φ f) h := by
  unfold pu_sync
  split
  · by_cases c : f = sl.getD (cnt - 1) 0
    · rw [c, pu_at]
      rfl
    · rw [pu_ne c]
  · rfl
theorem pt_learn_num (t : qf) (h : Bool) : (pt_learn t h).1 = t.1 := by
  unfold pt_learn
  split <;> rfl
section
variable {I I' : mN} {L L' : mL} {ρ : mQ} {s : Option Nat} {b n i : Nat} {E : qE} {t : qf} {D : List (Nat × Nat × Nat)} {nm : Nat → Nat}
theorem M_openHint (hP : mP b ρ) {rs : List qr} (h : mW I b i (t.1, t.2.1, t.2.2.1, t.2.2.2.1, rs)) (hz : mZ t) (hH : qB t.2.2.2.1) (hi : i < 12) {f : Nat} (hn : I (b + 212) i = nI (nm f)) (hnf : nm f < 2 ^ 20) (hd : ∃ n E, mDir I L b n E ∧ dR nm n E D) (hs : dS D) (hl : D.length + 11 ≤ 66) (hrs : pn_hint t.2.2.2.1 t.2.1.length = some rs) {T : qf} (hT : T.2.2.2.2 = rs) :
    ∃ I' L', f_M_openHint (s, pw_lay (pw_σ b) (I, L, ρ)) (some (b + 211)) (nI i) = some (s, pw_lay (pw_σ b) (I', L', ρ)) ∧ mW I' b i (t.1, t.2.1, t.2.2.1, t.2.2.2.1, rs) ∧ (∃ n E, mDir I' L' b n E ∧ dR nm n E (pd_en T f rs.length D)) ∧ mfr I I' (mCd b) ∧ ∀ a, a ≠ b + 225 → L' a = L a := by
  have hlB := hz.1
  have hlH := hz.2.1
  have spec : qCh 0 rs t.2.1.length ∧ (∀ r ∈ rs, rV r ∧ r.2.2.2 ≤ 8) ∧ rs.length ≤ 11 ∧ ∀ j r, rs[j]? = some r → r.2.2.1 = pn_num (fun i => t.2.2.2.1.getD i 0) (pn_hq rs j + 5) r.2.1 ∧ pn_hq rs j + 5 + r.2.1 ≤ t.2.2.2.1.length := by
    unfold pn_hint at hrs
    split at hrs
    · cases hrs
    · split at hrs
      · obtain ⟨x1, x2, x3⟩ := pn_ht_spec hH hlB _ _ _ _ hrs
        refine ⟨x1, x2, x3, fun j r hr => ?_⟩
        have := pn_ht_keys _ _ _ _ hrs j r hr
        rw [Nat.zero_add] at this
        exact ⟨this.1, by omega⟩
      · cases hrs
  obtain ⟨sp1, sp2, sp3, sp4⟩ := spec
  have hzr : mZ (t.1, t.2.1, t.2.2.1, t.2.2.2.1, rs) := ⟨hz.1, hz.2.1, sp3⟩
  unfold f_M_openHint
  rw [nI_120]
  refine pw_loopG (G := fun x => ∃ I' L', x = some (s, pw_lay (pw_σ b) (I', L', ρ)) ∧ mW I' b i (t.1, t.2.1, t.2.2.1, t.2.2.2.1, rs) ∧ (∃ n E, mDir I' L' b n E ∧ dR nm n E (pd_en T f rs.length D)) ∧ mfr I I' (mCd b) ∧ ∀ a, a ≠ b + 225 → L' a = L a) rs.length
    (fun m a => ∃ j I1 L1, a = (nI (120 * i + pn_hq rs j), nI j, (s, pw_lay (pw_σ b) (I1, L1, ρ))) ∧ mW I1 b i (t.1, t.2.1, t.2.2.1, t.2.2.2.1, rs) ∧ (∃ n E, mDir I1 L1 b n E ∧ dR nm n E (pd_en T f j D)) ∧ dS (pd_en T f j D) ∧ mfr I I1 (mCd b) ∧ (∀ a, a ≠ b + 225 → L1 a = L a) ∧ j + m = rs.length)
    (fun a => ∃ x y I1 L1, a = (x, y, (s, pw_lay (pw_σ b) (I1, L1, ρ))) ∧ mW I1 b i (t.1, t.2.1, t.2.2.1, t.2.2.2.1, rs) ∧ (∃ n E, mDir I1 L1 b n E ∧ dR nm n E (pd_en T f rs.length D)) ∧ mfr I I1 (mCd b) ∧ ∀ a, a ≠ b + 225 → L1 a = L a) ?_ ?_ ?_
  · refine ⟨0, I, L, ?_, h, hd, hs, mfr.rfl, fun _ _ => rfl, by omega⟩
    cases rs <;> rfl
  · rintro m a ⟨j, I1, L1, rfl, w1, ⟨n1, E1, d1, r1⟩, s1, g1, l1, hjm⟩
    dsimp only
    rw [mg_9 hP, Option.bind_some, ma_219 hi, Option.bind_some, w1.2.2.2.2.2.2.1]
    dsimp only
    by_cases c : j < rs.length
    · obtain ⟨r, hr⟩ : ∃ r, rs[j]? = some r := ⟨_, List.getElem?_eq_getElem c⟩
      obtain ⟨k1, k2⟩ := sp4 j r hr
      obtain ⟨rv, rv8⟩ := sp2 r (List.mem_of_getElem? hr)
      obtain ⟨q1, q2, q3⟩ := w1.2.2.2.2.2.2.2 j r hr
      have hDl := pd_en_len T f D j
      obtain ⟨s1', -⟩ := M_ent2 (s := s) hP d1 r1 s1 (by omega) (k := r.2.1) (x := r.2.2.1) (f := f) (j := j) rv.1 rv.2.1 rv.2.2.1 hnf (by omega)
      obtain ⟨I2, L2, x1, x2, x3, x4⟩ := s1'
      have e1 := M_hnum (s := s) (L := L1) (ρ := ρ) w1 hi hH hlH (p := pn_hq rs j + 5) (k := r.2.1) (by dsimp only; omega)
      dsimp only at e1
      rw [← k1] at e1
      have eT : pd_en T f (j + 1) D = pe_en (pn_rank r.2.1 r.2.2.1) (f, j) false (pd_en T f j D) := by
        rw [pd_en]
        unfold pn_rk
        rw [hT, getD_of hr, decide_eq_false (show ¬ r.2.2.2 = 255 by omega)]
      have hn1 : I1 (b + 212) i = nI (nm f) := by rw [g1 _ _ (fun hc => by unfold mCd at hc; omega)]; exact hn
      left
      refine ⟨m - 1, (nI (120 * i + pn_hq rs (j + 1)), nI (j + 1), (s, pw_lay (pw_σ b) (I2, L2, ρ))), by omega, ?_, j + 1, I2, L2, rfl, w1.fr hzr x3 (fun a c hc => mC_d hc), by rw [eT]; exact x2, by rw [eT]; exact s1.en, g1.trans x3, fun a ha => (x4 a ha).trans (l1 a ha), by omega⟩
      rw [if_neg (nI_ge c (by omega)), mg_11 hP, Option.bind_some, nI_12, ma_221 (by omega), Option.bind_some, q2, mg_8 hP, Option.bind_some, show nI (120 * i + pn_hq rs j) + (5 : Int32) = nI (120 * i + (pn_hq rs j + 5)) from nI_add _ 5, e1, Option.bind_some, mg_2 hP, Option.bind_some, ma_212 hi, Option.bind_some, hn1, mM_ob, Option.bind_some, x1, Option.bind_some, nI_add, nI_1, pn_hq_succ hr]
      congr 4
      omega
    · right
      have hj : j = rs.length := by omega
      rw [hj] at r1
      exact ⟨_, if_pos (nI_le (by omega) (by omega)), _, _, I1, L1, rfl, w1, ⟨n1, E1, d1, r1⟩, g1, l1⟩
  · rintro a ⟨x, y, I1, L1, rfl, w1, d1, g1, l1⟩
    exact ⟨I1, L1, rfl, w1, d1, g1, l1⟩
/-- a row is opened -/
theorem M_openRow (hP : mP b ρ) (h : mW I b i t) (hz : mZ t) (hV : qV t) (hi : i < 12) {f : Nat} (hn : I (b + 212) i = nI (nm f)) (hnf : nm f < 2 ^ 20) (hd : ∃ n E, mDir I L b n E ∧ dR nm n E D) (hs : dS D) (hl : D.length + 11 ≤ 66) (hh : Bool) :
    ∃ I' L', ((if (if hh then (1 : Int32) else 0) = 0 then
          (aw_obj (s, pw_lay (pw_σ b) (I, L, ρ)) (some (b + 211)) 7).bind fun v5 =>
          (f_M_openRecords (s, pw_lay (pw_σ b) (I, L, ρ)) (some (b + 211)) (nI i)).bind fun v6 =>
          some v6
        else
          (aw_obj (s, pw_lay (pw_σ b) (I, L, ρ)) (some (b + 211)) 7).bind fun v7 =>
          (f_M_tells (s, pw_lay (pw_σ b) (I, L, ρ)) (some (b + 211)) (nI i)).bind fun v8 =>
          if v8.1 = 0 then
            (aw_obj v8.2 (some (b + 211)) 7).bind fun v9 =>
            (f_M_openRecords v8.2 (some (b + 211)) (nI i)).bind fun v10 =>
            some v10
          else
            (aw_obj v8.2 (some (b + 211)) 7).bind fun v11 =>
            (f_M_openHint v8.2 (some (b + 211)) (nI i)).bind fun v12 =>
            some v12 : Option (aw_W)).bind fun j13 =>
      (aw_gR j13 (some (b + 211)) 7 4).bind fun v14 =>
      (aw_gR j13 (some (b + 211)) 7 3).bind fun v15 =>
      (aw_aI j13 v15 1 (nI i)).bind fun v16 =>
      (aw_sI j13 v14 1 (nI i) v16)) = some (s, pw_lay (pw_σ b) (I', L', ρ)) ∧ mW I' b i (pt_learn t hh) ∧ (∃ n E, mDir I' L' b n E ∧ dR nm n E (pd_en (pt_learn t hh) f (pt_learn t hh).2.2.2.2.length D)) ∧ mfr I I' (mCo b i) ∧ ∀ a, a ≠ b + 225 → L' a = L a := by
  obtain ⟨v1, v2, v3, v4, v5⟩ := hV
  obtain ⟨lv1, lv2, lv3, lv4⟩ := pt_learn_V ⟨v1, v2, v3, v4, v5⟩ hz.1 hh
  -- the end
  have fin : ∀ (J : mN) (K : mL) (u : qf), mW J b i u → pt_sync u = pt_learn t hh → (∃ n E, mDir J K b n E ∧ dR nm n E (pd_en (pt_learn t hh) f (pt_learn t hh).2.2.2.2.length D)) → mfr I J (mCo b i) → (∀ a, a ≠ b + 225 → K a = L a) → ∃ I' L', ((aw_gR (s, pw_lay (pw_σ b) (J, K, ρ)) (some (b + 211)) 7 4).bind fun v14 => (aw_gR (s, pw_lay (pw_σ b) (J, K, ρ)) (some (b + 211)) 7 3).bind fun v15 => (aw_aI (s, pw_lay (pw_σ b) (J, K, ρ)) v15 1 (nI i)).bind fun v16 => (aw_sI (s, pw_lay (pw_σ b) (J, K, ρ)) v14 1 (nI i) v16)) = some (s, pw_lay (pw_σ b) (I', L', ρ)) ∧ mW I' b i (pt_learn t hh) ∧ (∃ n E, mDir I' L' b n E ∧ dR nm n E (pd_en (pt_learn t hh) f (pt_learn t hh).2.2.2.2.length D)) ∧ mfr I I' (mCo b i) ∧ ∀ a, a ≠ b + 225 → L' a = L a := by
    intro J K u w e d g l
    rw [mg_4 hP, Option.bind_some, mg_3 hP, Option.bind_some, ma_213 hi, Option.bind_some, w.1, ms_214 hi]
    refine ⟨_, K, rfl, by rw [← e]; exact w.sync, ?_, g.trans (mfr.uI (Or.inl ⟨Or.inl ⟨by omega, rfl⟩, by omega⟩)), l⟩
    obtain ⟨n2, E2, y1, y2⟩ := d
    exact ⟨n2, E2, y1.fr (mfr.uI (Q := mC b i) (Or.inl ⟨by omega, rfl⟩)) (fun a k ha hc => mC_d hc (by unfold mCd; omega)), y2⟩
  have byR : ∀ (J : mN) (rs : List qr), mW J b i (t.1, t.2.1, t.2.2.1, t.2.2.2.1, rs) → rs.length ≤ 11 → mfr I J (fun a c => mC b i a c ∧ a ≠ b + 212) → pt_learn t hh = (t.1, t.2.1.take (pn_lrn t.2.1 11 0).2, (t.2.1.take (pn_lrn t.2.1 11 0).2).length, t.2.2.2.1, (pn_lrn t.2.1 11 0).1) → ∃ J' K', f_M_openRecords (s, pw_lay (pw_σ b) (J, L, ρ)) (some (b + 211)) (nI i) = some (s, pw_lay (pw_σ b) (J', K', ρ)) ∧ ∃ u, mW J' b i u ∧ pt_sync u = pt_learn t hh ∧ (∃ n E, mDir J' K' b n E ∧ dR nm n E (pd_en (pt_learn t hh) f (pt_learn t hh).2.2.2.2.length D)) ∧ mfr I J' (mCo b i) ∧ ∀ a, a ≠ b + 225 → K' a = L a := by
    intro J rs w hlr g e
    have hJn : J (b + 212) i = nI (nm f) := by rw [g _ _ (fun hc => hc.2 rfl)]; exact hn
    have hJd : ∃ n E, mDir J L b n E ∧ dR nm n E D := by
      obtain ⟨n2, E2, y1, y2⟩ := hd
      exact ⟨n2, E2, y1.fr g (fun a k ha hc => mC_d hc.1 (by unfold mCd; omega)), y2⟩
    obtain ⟨J', K', x1, x2, x3, x4, x5⟩ := M_openRecords (s := s) hP w ⟨hz.1, hz.2.1, hlr⟩ v1 hi hJn hnf hJd hs hl (T := pt_learn t hh) (by rw [e])
    dsimp only at x2 x3
    have e2 : (pt_learn t hh).2.2.2.2.length = (pn_lrn t.2.1 11 0).1.length := by rw [e]
    refine ⟨J', K', x1, _, x2, ?_, ?_, (g.mono (fun a c hc => Or.inl hc)).trans x4, x5⟩
    · rw [e]
      rfl
    · rw [e2]
      exact x3
  cases hh with
  | false =>
    simp only [Bool.false_eq_true, if_false, if_true]
    obtain ⟨J', K', x1, u, x2, x3, x4, x5, x6⟩ := byR I t.2.2.2.2 h hz.2.2 mfr.rfl rfl
    rw [mM_ob, Option.bind_some, x1, Option.bind_some, Option.bind_some]
    exact fin J' K' u x2 x3 x4 x5 x6
  | true =>
    have e10 : ¬ (1 : Int32) = 0 := by decide
    simp only [if_true, if_neg e10]
    obtain ⟨a, J, rs, y1, y2, y3, y4, y5⟩ := M_tells (s := s) (L := L) hP h hz v2 v3 hi
    rw [mM_ob, Option.bind_some, y1, Option.bind_some]
    rcases y5 with ⟨ha, hp⟩ | ⟨ha, hp⟩
    · have eL : pt_learn t true = (t.1, t.2.1, t.2.1.length, t.2.2.2.1, rs) := by
        unfold pt_learn
        rw [if_pos rfl, hp]
      have hJn : J (b + 212) i = nI (nm f) := by rw [y4 _ _ (fun hc => hc.2 rfl)]; exact hn
      have hJd : ∃ n E, mDir J L b n E ∧ dR nm n E D := by
        obtain ⟨n2, E2, z1, z2⟩ := hd
        exact ⟨n2, E2, z1.fr y4 (fun a k ha hc => mC_d hc.1 (by unfold mCd; omega)), z2⟩
      obtain ⟨J', K', x1, x2, x3, x4, x5⟩ := M_openHint (s := s) hP y2 hz v2 hi hJn hnf hJd hs hl hp (T := pt_learn t true) (by rw [eL])
      have e2 : (pt_learn t true).2.2.2.2.length = rs.length := by rw [eL]
      dsimp only
      rw [if_neg (show ¬ a = 0 by rw [ha]; decide), mM_ob, Option.bind_some, x1, Option.bind_some, Option.bind_some]
      exact fin J' K' _ x2 (by rw [eL]; rfl) (by rw [e2]; exact x3) ((y4.mono (fun a c hc => Or.inl hc)).trans (x4.mono (fun a c hc => Or.inr hc))) x5
    · have eL : pt_learn t true = (t.1, t.2.1.take (pn_lrn t.2.1 11 0).2, (t.2.1.take (pn_lrn t.2.1 11 0).2).length, t.2.2.2.1, (pn_lrn t.2.1 11 0).1) := by
        unfold pt_learn
        rw [if_pos rfl, hp]
      obtain ⟨J', K', x1, u, x2, x3, x4, x5, x6⟩ := byR J rs y2 y3 y4 eL
      dsimp only
      rw [if_pos ha, mM_ob, Option.bind_some, x1, Option.bind_some, Option.bind_some]
      exact fin J' K' u x2 x3 x4 x5 x6
end
