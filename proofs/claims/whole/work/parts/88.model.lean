/-! ===== the reference appends ===== -/
/-- the files' rows -/
def mF (I : mN) (b : Nat) (φ : Nat → qf) (sl : List Nat) (cnt : Nat) : Prop := ∀ i, i < cnt → I (b + 212) i = nI (φ (sl.getD i 0)).1 ∧ mW I b i (φ (sl.getD i 0))
def mFl (I : mN) (b cnt : Nat) (act : Bool) (last time : Nat) : Prop := I (b + 211) 1 = nI cnt ∧ (I (b + 211) 20 = if act then 1 else 0) ∧ I (b + 211) 22 = nI last ∧ I (b + 211) 23 = nI time
/-- what appending touches -/
def mCa (b a k : Nat) : Prop := (a = b + 211 ∧ (k = 1 ∨ k = 20 ∨ k = 22 ∨ k = 23)) ∨ ∃ i, i < 6 ∧ mC b i a k
theorem nI_65536 {n : Nat} (h : n ≤ 65536) : nI n - nI n / 65536 * 65536 = nI (n % 65536) := by
  have e1 : nI n / 65536 = nI (n / 65536) := by
    apply Int32.toInt_inj.mp
    rw [Int32.toInt_div, nI_toInt (by omega), nI_toInt (by omega), show (65536 : Int32).toInt = 65536 from by decide, Int.bmod_def]
    have e1 : (n : Int).tdiv 65536 = ((n / 65536 : Nat) : Int) := by
      rw [Int.tdiv_eq_ediv_of_nonneg (by omega)]
      omega
    rw [e1]
    split <;> omega
  rw [e1, show (65536 : Int32) = nI 65536 from rfl, show nI (n / 65536) * nI 65536 = nI (n / 65536 * 65536) from (Int32.ofNat_mul _ _).symm]
  have e2 : nI n = nI (n % 65536) + nI (n / 65536 * 65536) := by
    rw [nI_add]
    congr 1
    omega
  have e3 : nI n - nI (n / 65536 * 65536) = nI (n % 65536) + nI (n / 65536 * 65536) - nI (n / 65536 * 65536) := by rw [← e2]
  rw [e3, Int32.add_sub_cancel]
section
variable {I I' : mN} {L : mL} {ρ : mQ} {s : Option Nat} {b : Nat} {t : qf} {i : Nat} {φ : Nat → qf} {sl ou : List Nat} {cnt last time : Nat} {act : Bool}
theorem mW.sync (h : mW I b i t) : mW (uI I (b + 214) i (nI t.2.1.length)) b i (pt_sync t) := by
  obtain ⟨h1, h2, h3, h4, h5, h6, h7, h8⟩ := h
  refine ⟨?_, uI_at, fun k hk => ?_, ?_, fun hn => ?_, fun k hk => ?_, ?_, fun k r hr => ?_⟩
  · rw [uI_ne (by omega)]; exact h1
  · rw [uI_ne (by omega)]; exact h3 k hk
  · rw [uI_ne (by omega)]; exact h4
  · rw [uI_ne (by omega)]; exact h5 hn
  · rw [uI_ne (by omega)]; exact h6 k hk
  · rw [uI_ne (by omega)]; exact h7
  · rw [uI_ne (by omega), uI_ne (by omega), uI_ne (by omega)]; exact h8 k r hr
/-- a change of the reference's fields leaves the rows -/
theorem mW.fld (h : mW I b i t) (k : Nat) (x : Int32) : mW (uI I (b + 211) k x) b i t := by
  obtain ⟨h1, h2, h3, h4, h5, h6, h7, h8⟩ := h
  refine ⟨?_, ?_, fun k hk => ?_, ?_, fun hn => ?_, fun k hk => ?_, ?_, fun k r hr => ?_⟩
  · rw [uI_ne (by omega)]; exact h1
  · rw [uI_ne (by omega)]; exact h2
  · rw [uI_ne (by omega)]; exact h3 k hk
  · rw [uI_ne (by omega)]; exact h4
  · rw [uI_ne (by omega)]; exact h5 hn
  · rw [uI_ne (by omega)]; exact h6 k hk
  · rw [uI_ne (by omega)]; exact h7
  · rw [uI_ne (by omega), uI_ne (by omega), uI_ne (by omega)]; exact h8 k r hr
theorem mW.num (h : mW I b i t) (j : Nat) (x : Int32) : mW (uI I (b + 212) j x) b i t := by
  obtain ⟨h1, h2, h3, h4, h5, h6, h7, h8⟩ := h
  refine ⟨?_, ?_, fun k hk => ?_, ?_, fun hn => ?_, fun k hk => ?_, ?_, fun k r hr => ?_⟩
  · rw [uI_ne (by omega)]; exact h1
  · rw [uI_ne (by omega)]; exact h2
  · rw [uI_ne (by omega)]; exact h3 k hk
  · rw [uI_ne (by omega)]; exact h4
  · rw [uI_ne (by omega)]; exact h5 hn
  · rw [uI_ne (by omega)]; exact h6 k hk
  · rw [uI_ne (by omega)]; exact h7
  · rw [uI_ne (by omega), uI_ne (by omega), uI_ne (by omega)]; exact h8 k r hr
theorem mCb_C {a c : Nat} (h : mCb b i a c) : mC b i a c ∧ a ≠ b + 212 := by
  unfold mCb at h
  unfold mC
  omega
/-- a record is appended to the row r, the last -/
theorem M_appRow (hP : mP b ρ) {r : Nat} (hr6 : r < 6) (h : mW I b r t) (hcnt : I (b + 211) 1 = nI (r + 1)) (htime : I (b + 211) 23 = nI time) (ht : time < 65536) (hc : t.2.2.2.2.length < 11) (hB : qB t.2.1) {k v : Nat} (hk : k ≤ 4) (hv : v ≤ 8 ∨ v = 255) (key value : Int64) (hl : t.2.1.length + pn_len k v ≤ 100) :
    ∃ I', ((aw_gI (s, pw_lay (pw_σ b) (I, L, ρ)) (some (b + 211)) 7 1).bind fun v47 =>
  (aw_gR (s, pw_lay (pw_σ b) (I, L, ρ)) (some (b + 211)) 7 3).bind fun v48 =>
  (aw_aI (s, pw_lay (pw_σ b) (I, L, ρ)) v48 1 (v47 - (1 : Int32))).bind fun v49 =>
  (aw_obj (s, pw_lay (pw_σ b) (I, L, ρ)) (some (b + 211)) 7).bind fun v50 =>
  (f_M_note (s, pw_lay (pw_σ b) (I, L, ρ)) (some (b + 211)) (v47 - (1 : Int32)) v49 (nI k) (nI v)).bind fun v51 =>
  (aw_obj v51 (some (b + 211)) 7).bind fun v52 =>
  (f_M_putNumber v51 (some (b + 211)) (v47 - (1 : Int32)) (0 : Int64) (4 : Int32)).bind fun v53 =>
  (aw_gI v53 (some (b + 211)) 7 23).bind fun v54 =>
  (aw_obj v53 (some (b + 211)) 7).bind fun v55 =>
  (f_M_putNumber v53 (some (b + 211)) (v47 - (1 : Int32)) v54.toInt64 (2 : Int32)).bind fun v56 =>
  (aw_obj v56 (some (b + 211)) 7).bind fun v57 =>
  (f_M_putByte v56 (some (b + 211)) (v47 - (1 : Int32)) (nI k)).bind fun v58 =>
  (aw_obj v58 (some (b + 211)) 7).bind fun v59 =>
  (f_M_putByte v58 (some (b + 211)) (v47 - (1 : Int32)) (nI v)).bind fun v60 =>
  (aw_obj v60 (some (b + 211)) 7).bind fun v61 =>
  (f_M_putNumber v60 (some (b + 211)) (v47 - (1 : Int32)) key (nI k)).bind fun v62 =>
  (if (255 : Int32) ≤ nI v then
      some v62
    else
      (aw_obj v62 (some (b + 211)) 7).bind fun v63 =>
      (f_M_putNumber v62 (some (b + 211)) (v47 - (1 : Int32)) value (nI v)).bind fun v64 =>
      some v64 : Option (aw_W)).bind fun j65 =>
  (aw_gR j65 (some (b + 211)) 7 5).bind fun v66 =>
  (aw_gR j65 (some (b + 211)) 7 3).bind fun v67 =>
  (aw_aI j65 v67 1 (v47 - (1 : Int32))).bind fun v68 =>
  (f_M_sumOf j65 v66 ((((100 : Int32) * (v47 - (1 : Int32))) + v49) + (4 : Int32)) (((100 : Int32) * (v47 - (1 : Int32))) + v68)).bind fun v69 =>
  (aw_wh (σ := Int32 × aw_W) (τ := Int32 × aw_W) (fun s70 =>
    if (4 : Int32) ≤ s70.1 then
      some (.inr (s70.1, s70.2))
    else
      (aw_gR s70.2 (some (b + 211)) 7 5).bind fun v71 =>
      (aw_sI s70.2 v71 1 ((((100 : Int32) * (v47 - (1 : Int32))) + v49) + s70.1) (((aj_lshr v69 ((8 : Int32) * ((3 : Int32) - s70.1))) &&& (255 : Int64)).toInt32)).bind fun v72 =>
      some (.inl (s70.1 + 1, v72))) ((0 : Int32), j65)).bind fun e73 =>
  (aw_gI e73.2 (some (b + 211)) 7 23).bind fun v74 =>
  (aw_pV e73.2 (some (b + 211)) 7 23 (.int ((v74 + (1 : Int32)) - (v74 + (1 : Int32)) / (65536 : Int32) * (65536 : Int32)))).bind fun v75 =>
  some v75) = some (s, pw_lay (pw_σ b) (I', L, ρ)) ∧ I' (b + 211) 23 = nI ((time + 1) % 65536) ∧ mW I' b r (t.1, t.2.1 ++ pn_rec time k key v value, t.2.2.1, t.2.2.2.1, t.2.2.2.2 ++ [(t.2.1.length, k, pn_cut key k, v)]) ∧ mfr I I' (fun a c => (a = b + 211 ∧ c = 23) ∨ (mC b r a c ∧ a ≠ b + 212)) := by
  have hr12 : r < 12 := by omega
  have hlen : pn_len k v = 8 + k + (if v = 255 then 0 else v) := rfl
  obtain ⟨I1, e1, w1, g1⟩ := M_note (s := s) (L := L) hP h hr12 (by omega) t.2.1.length k (pn_cut key k) v
  obtain ⟨I2, e2, w2, g2⟩ := M_putNumber (s := s) (L := L) hP w1 hr12 0 (n := 4) (by decide) (by dsimp only; omega)
  obtain ⟨I3, e3, w3, g3⟩ := M_putNumber (s := s) (L := L) hP w2 hr12 (lN time) (n := 2) (by decide) (by dsimp only; rw [List.length_append, pn_bys_len]; omega)
  obtain ⟨I4, e4, w4, g4⟩ := M_putByte (s := s) (L := L) hP w3 hr12 (by dsimp only; rw [List.length_append, List.length_append, pn_bys_len, pn_bys_len]; omega) k
  obtain ⟨I5, e5, w5, g5⟩ := M_putByte (s := s) (L := L) hP w4 hr12 (by dsimp only; rw [List.length_append, List.length_append, List.length_append, pn_bys_len, pn_bys_len, List.length_singleton]; omega) v
  obtain ⟨I6, e6, w6, g6⟩ := M_putNumber (s := s) (L := L) hP w5 hr12 key (n := k) (by omega) (by dsimp only; rw [List.length_append, List.length_append, List.length_append, List.length_append, pn_bys_len, pn_bys_len, List.length_singleton, List.length_singleton]; omega)
  have hval : ∃ I7, (if (255 : Int32) ≤ nI v then some (s, pw_lay (pw_σ b) (I6, L, ρ)) else (aw_obj (s, pw_lay (pw_σ b) (I6, L, ρ)) (some (b + 211)) 7).bind fun v63 => (f_M_putNumber (s, pw_lay (pw_σ b) (I6, L, ρ)) (some (b + 211)) (nI r) value (nI v)).bind fun v64 => some v64 : Option aw_W) = some (s, pw_lay (pw_σ b) (I7, L, ρ)) ∧ mW I7 b r (t.1, t.2.1 ++ (pn_bys 0 4 ++ pn_body time k key v value), t.2.2.1, t.2.2.2.1, t.2.2.2.2 ++ [(t.2.1.length, k, pn_cut key k, v)]) ∧ mfr I6 I7 (mCb b r) := by
    have ebody : ∀ X : List Nat, t.2.1 ++ pn_bys 0 4 ++ pn_bys (lN time) 2 ++ [k] ++ [v] ++ pn_bys key k ++ X = t.2.1 ++ (pn_bys 0 4 ++ (pn_bys (lN time) 2 ++ ([k] ++ ([v] ++ (pn_bys key k ++ X))))) := fun X => by simp only [List.append_assoc]
    by_cases c5 : v = 255
    · rw [if_pos (by rw [c5]; decide)]
      refine ⟨I6, rfl, ?_, mfr.rfl⟩
      have := ebody []
      rw [List.append_nil] at this
      dsimp only at w6
      rw [this] at w6
      unfold pn_body
      rw [if_pos c5]
      exact w6
    · have h8 : v ≤ 8 := by omega
      obtain ⟨I7, e7, w7, g7⟩ := M_putNumber (s := s) (L := L) hP w6 hr12 value (n := v) (by omega) (by dsimp only; rw [List.length_append, List.length_append, List.length_append, List.length_append, List.length_append, pn_bys_len, pn_bys_len, pn_bys_len, List.length_singleton, List.length_singleton]; rw [if_neg c5] at hlen; omega)
      rw [if_neg (show ¬ (255 : Int32) ≤ nI v from nI_ge (b := 255) (by omega) (by decide)), mM_ob, Option.bind_some, e7]
      refine ⟨I7, rfl, ?_, g7⟩
      dsimp only at w7
      rw [ebody] at w7
      unfold pn_body
      rw [if_neg c5]
      exact w7
  obtain ⟨I7, e7, w7, g7⟩ := hval
  have hbl := pn_body_len time k key v value
  have hz : (t.2.1 ++ (pn_bys 0 4 ++ pn_body time k key v value)).length = t.2.1.length + pn_len k v := by
    rw [List.length_append, List.length_append, pn_bys_len]
    omega
  have hqB : qB (t.2.1 ++ (pn_bys 0 4 ++ pn_body time k key v value)) := hB.app ((pn_bys_qB _ _).app (pn_body_qB (by omega) (by omega)))
  have hsum := M_rsum (s := s) (L := L) (ρ := ρ) w7 hr12 hqB (by dsimp only; omega) (p := t.2.1.length + 4) (k := pn_len k v - 4) (by dsimp only; omega)
  have esum : pn_sum (fun c => (t.2.1 ++ (pn_bys 0 4 ++ pn_body time k key v value)).getD c 0) (t.2.1.length + 4) (pn_len k v - 4) = pn_sumL (pn_body time k key v value) := by
    unfold pn_sumL
    rw [show pn_len k v - 4 = (pn_body time k key v value).length by omega]
    refine pn_sum_congr fun j _ => ?_
    rw [Nat.add_assoc, pn_getD_app, show 4 + j = (pn_bys 0 4).length + j by rw [pn_bys_len], pn_getD_app, Nat.zero_add]
  dsimp only at hsum
  rw [esum] at hsum
  generalize hS : lN (pn_sumL (pn_body time k key v value)) = S at hsum
  -- the four bytes
  have w8 := ((((w7.set (j := t.2.1.length + 0) (by dsimp only; rw [hz]; omega) (pn_by S 3)).set (j := t.2.1.length + 1) (by dsimp only; rw [List.length_set, hz]; omega) (pn_by S 2)).set (j := t.2.1.length + 2) (by dsimp only; rw [List.length_set, List.length_set, hz]; omega) (pn_by S 1)).set (j := t.2.1.length + 3) (by dsimp only; rw [List.length_set, List.length_set, List.length_set, hz]; omega) (pn_by S 0))
  dsimp only at w8
  rw [pn_set4 _ _ _ (pn_bys_len 0 4) S] at w8
  have erec : pn_bys S 4 ++ pn_body time k key v value = pn_rec time k key v value := by unfold pn_rec; rw [hS]
  rw [erec] at w8
  have fr8 : mfr I7 (uI (uI (uI (uI I7 (b + 215) (100 * r + (t.2.1.length + 0)) (nI (pn_by S 3))) (b + 215) (100 * r + (t.2.1.length + 1)) (nI (pn_by S 2))) (b + 215) (100 * r + (t.2.1.length + 2)) (nI (pn_by S 1))) (b + 215) (100 * r + (t.2.1.length + 3)) (nI (pn_by S 0))) (mCb b r) := by
    have := pn_len_ge k v
    exact (((mfr.uI (by unfold mCb; omega)).trans (mfr.uI (by unfold mCb; omega))).trans (mfr.uI (by unfold mCb; omega))).trans (mfr.uI (by unfold mCb; omega))
  generalize hI8 : uI (uI (uI (uI I7 (b + 215) (100 * r + (t.2.1.length + 0)) (nI (pn_by S 3))) (b + 215) (100 * r + (t.2.1.length + 1)) (nI (pn_by S 2))) (b + 215) (100 * r + (t.2.1.length + 2)) (nI (pn_by S 1))) (b + 215) (100 * r + (t.2.1.length + 3)) (nI (pn_by S 0)) = I8 at w8 fr8
  have gall : mfr I I8 (fun a c => mC b r a c ∧ a ≠ b + 212) := ((((((g1.mono (fun a c h => by unfold mC; omega)).trans (g2.mono (fun a c h => mCb_C h))).trans (g3.mono (fun a c h => mCb_C h))).trans (g4.mono (fun a c h => mCb_C h))).trans (g5.mono (fun a c h => mCb_C h))).trans (g6.mono (fun a c h => mCb_C h))).trans ((g7.mono (fun a c h => mCb_C h)).trans (fr8.mono (fun a c h => mCb_C h)))
  have fld : ∀ (J : mN) c, mfr I J (fun a c => mC b r a c ∧ a ≠ b + 212) → J (b + 211) c = I (b + 211) c := fun J c g => g _ _ (fun hc => by unfold mC at hc; omega)
  have gt2 : mfr I I2 (fun a c => mC b r a c ∧ a ≠ b + 212) := (g1.mono (fun a c h => by unfold mC; omega)).trans (g2.mono (fun a c h => mCb_C h))
  refine ⟨uI I8 (b + 211) 23 (nI ((time + 1) % 65536)), ?_, uI_at, w8.fld _ _, (gall.mono (fun a c h => Or.inr h)).trans (mfr.uI (Or.inl ⟨rfl, rfl⟩))⟩
  rw [mf_1, Option.bind_some, hcnt, nI_pred, mg_3 hP, Option.bind_some, ma_213 hr12, Option.bind_some, h.1, mM_ob, Option.bind_some, e1, Option.bind_some, mM_ob, Option.bind_some, show (4 : Int32) = nI 4 from rfl, e2, Option.bind_some, mf_23, Option.bind_some, fld I2 23 gt2, htime, nI_l (by omega), mM_ob, Option.bind_some, show (2 : Int32) = nI 2 from rfl, e3, Option.bind_some, mM_ob, Option.bind_some, e4, Option.bind_some, mM_ob, Option.bind_some, e5, Option.bind_some, mM_ob, Option.bind_some, e6, Option.bind_some, e7, Option.bind_some, mg_5 hP, Option.bind_some, mg_3 hP, Option.bind_some, ma_213 hr12, Option.bind_some, w7.1, nI_100, nI_100, nI_add]
  dsimp only
  rw [hz, show 100 * r + t.2.1.length + 4 = 100 * r + (t.2.1.length + 4) by omega, show 100 * r + (t.2.1.length + pn_len k v) = 100 * r + (t.2.1.length + 4) + (pn_len k v - 4) by omega, hsum, Option.bind_some]
  have hp4 : t.2.1.length + 4 ≤ 100 := by omega
  have step : ∀ (J : mN) (j : Nat), j < 4 → (if nI 4 ≤ nI j then some (Sum.inr (nI j, (s, pw_lay (pw_σ b) (J, L, ρ)))) else (aw_gR (s, pw_lay (pw_σ b) (J, L, ρ)) (some (b + 211)) 7 5).bind fun v71 => (aw_sI (s, pw_lay (pw_σ b) (J, L, ρ)) v71 1 (nI (100 * r + t.2.1.length) + nI j) (((aj_lshr S ((8 : Int32) * ((3 : Int32) - nI j))) &&& (255 : Int64)).toInt32)).bind fun v72 => some (Sum.inl (nI j + 1, v72)) : Option ((Int32 × aw_W) ⊕ (Int32 × aw_W))) = some (.inl (nI (j + 1), (s, pw_lay (pw_σ b) (uI J (b + 215) (100 * r + (t.2.1.length + j)) (nI (pn_by S (3 - j))), L, ρ)))) := by
    intro J j hj
    have e3 : ∀ q : Fin 4, (8 : Int32) * (3 - nI q.val) = 8 * nI (3 - q.val) := by decide +kernel
    rw [if_neg (nI_ge hj (by decide)), mg_5 hP, Option.bind_some, nI_add, e3 ⟨j, hj⟩, by_mod32 S (by omega), ms_215 (by omega), Option.bind_some, nI_1, Nat.add_assoc]
  refine (pw_loop (nI 4, (s, pw_lay (pw_σ b) (I8, L, ρ))) 4 (fun j => (nI j, (s, pw_lay (pw_σ b) ((match j with
      | 0 => I7
      | 1 => uI I7 (b + 215) (100 * r + (t.2.1.length + 0)) (nI (pn_by S 3))
      | 2 => uI (uI I7 (b + 215) (100 * r + (t.2.1.length + 0)) (nI (pn_by S 3))) (b + 215) (100 * r + (t.2.1.length + 1)) (nI (pn_by S 2))
      | 3 => uI (uI (uI I7 (b + 215) (100 * r + (t.2.1.length + 0)) (nI (pn_by S 3))) (b + 215) (100 * r + (t.2.1.length + 1)) (nI (pn_by S 2))) (b + 215) (100 * r + (t.2.1.length + 2)) (nI (pn_by S 1))
      | _ => I8), L, ρ)))) rfl (fun j hj => ?_) ?_).trans ?_
  · dsimp only
    match j, hj with
    | 0, _ => exact step _ 0 (by decide)
    | 1, _ => exact step _ 1 (by decide)
    | 2, _ => exact step _ 2 (by decide)
    | 3, _ => rw [← hI8]; exact step _ 3 (by decide)
  · exact if_pos (show nI 4 ≤ nI 4 from nI_le (Nat.le_refl _) (by decide))
  · dsimp only
    rw [mf_23, Option.bind_some, fld I8 23 gall, htime, nI_1, nI_65536 (by omega), mw_23]
    rfl
end
