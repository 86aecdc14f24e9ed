/-! ===== the reference's put, delete, get ===== -/
section
variable {I I' : mN} {L L' : mL} {ρ : mQ} {s : Option Nat} {b : Nat} {φ φ' : Nat → qf} {sl : List Nat} {cnt : Nat} {act : Bool} {last time : Nat} {cl : Bool} {D : List (Nat × Nat × Nat)} {ou : List Nat} {made taken af ar : Nat} {src : Nat → Nat → Nat × Nat}
theorem pm_tgt_r {z : Nat} (hcase : pk_fit φ sl cnt act z ∨ cnt < 6) (h6 : cnt ≤ 6) (hp : act = true → 0 < cnt) : ∃ r, r < 6 ∧ (pk_tgt φ sl cnt act last z).2.2.1 = r + 1 := by
  by_cases hf : pk_fit φ sl cnt act z
  · have := hp hf.1
    rw [pk_tgt_fit hf]
    exact ⟨cnt - 1, by omega, by dsimp only; omega⟩
  · have hc6 : cnt < 6 := hcase.elim (fun h => absurd h hf) id
    rw [pk_tgt_new hf]
    exact ⟨cnt, hc6, rfl⟩
theorem M_put_bad {key value : Int64} {p q : Int32} (h : (p < 1 ∨ ¬ p ≤ 4) ∨ (q < 0 ∨ ¬ q ≤ 8)) : f_M_put (s, pw_lay (pw_σ b) (I, L, ρ)) (some (b + 211)) key p value q = some (s, pw_lay (pw_σ b) (uI I (b + 211) 0 1, L, ρ)) := by
  unfold f_M_put
  rw [M_in, Option.bind_some]
  by_cases c : ¬ p < 1 ∧ p ≤ 4
  · have c2 : ¬ (¬ q < 0 ∧ q ≤ 8) := fun hc => by
      rcases h with (h | h) | (h | h)
      · exact c.1 h
      · exact h c.2
      · exact hc.1 h
      · exact h hc.2
    rw [if_pos c, if_neg (by decide), M_in, Option.bind_some, if_neg c2, if_pos rfl, Option.bind_some, mw_0, Option.bind_some, mf_0, Option.bind_some, uI_at, if_neg (by decide)]
  · rw [if_neg c, if_pos rfl, Option.bind_some, mw_0, Option.bind_some, mf_0, Option.bind_some, uI_at, if_neg (by decide)]
theorem M_r14 {k : Nat} (h1 : 1 ≤ k) (h4 : k ≤ 4) : ¬ nI k < (1 : Int32) ∧ nI k ≤ (4 : Int32) := ⟨nI_nlt (b := 1) h1 (by omega), nI_le (b := 4) h4 (by decide)⟩
theorem M_r08 {v : Nat} (h8 : v ≤ 8) : ¬ nI v < (0 : Int32) ∧ nI v ≤ (8 : Int32) := ⟨nI_pos (by omega), nI_le (b := 8) h8 (by decide)⟩
theorem M_put_cl (h : MR I L b φ sl cnt act last time true D ou made taken af ar src) {key value : Int64} {k v : Nat} (h1 : 1 ≤ k) (h4 : k ≤ 4) (h8 : v ≤ 8) : f_M_put (s, pw_lay (pw_σ b) (I, L, ρ)) (some (b + 211)) key (nI k) value (nI v) = some (s, pw_lay (pw_σ b) (uI I (b + 211) 0 2, L, ρ)) := by
  have hc : I (b + 211) 21 = 1 := h.2.1
  unfold f_M_put
  rw [M_in, Option.bind_some, if_pos (M_r14 h1 h4), if_neg (by decide), M_in, Option.bind_some, if_pos (M_r08 h8), if_neg (by decide), mf_21, Option.bind_some, hc, if_neg (by decide), Option.bind_some, mw_0, Option.bind_some, mf_0, Option.bind_some, uI_at, if_neg (by decide)]
theorem M_put_op (h : MR I L b φ sl cnt act last time false D ou made taken af ar src) (hP : mP b ρ) (hp : pm_pre φ sl cnt act last time D ou made taken src) {key value : Int64} {k v : Nat} (h1 : 1 ≤ k) (h4 : k ≤ 4) (h8 : v ≤ 8) :
    (¬ pk_fit φ sl cnt act (pn_len k v) → cnt = 6 → f_M_put (s, pw_lay (pw_σ b) (I, L, ρ)) (some (b + 211)) key (nI k) value (nI v) = some (s, pw_lay (pw_σ b) (uI I (b + 211) 0 3, L, ρ))) ∧
    (pk_fit φ sl cnt act (pn_len k v) ∨ cnt < 6 → ∃ I' L', f_M_put (s, pw_lay (pw_σ b) (I, L, ρ)) (some (b + 211)) key (nI k) value (nI v) = some (s, pw_lay (pw_σ b) (I', L', ρ)) ∧ I' (b + 211) 0 = 0 ∧
      MR I' L' b (pu (pk_tgt φ sl cnt act last (pn_len k v)).2.1 (pk_tgt φ sl cnt act last (pn_len k v)).1 (pt_app ((pk_tgt φ sl cnt act last (pn_len k v)).2.1 (pk_tgt φ sl cnt act last (pn_len k v)).1) time k (pn_cut key k) v value)) sl (pk_tgt φ sl cnt act last (pn_len k v)).2.2.1 true (pk_tgt φ sl cnt act last (pn_len k v)).2.2.2 ((time + 1) % 65536) false (pe_en (pn_rank k (pn_cut key k)) ((pk_tgt φ sl cnt act last (pn_len k v)).1, ((pk_tgt φ sl cnt act last (pn_len k v)).2.1 (pk_tgt φ sl cnt act last (pn_len k v)).1).2.2.2.2.length) false D) ou made taken af ar src ∧ mfr I I' (fun a _ => mCM b a) ∧ ∀ a, a ≠ b + 225 → L' a = L a) := by
  have hc : I (b + 211) 21 = 0 := h.2.1
  have hlen := pn_len_le h4 (Or.inl h8 : v ≤ 8 ∨ v = 255)
  have hp' := hp
  obtain ⟨p1, p2, p3, p4, p5, p6, -⟩ := hp'
  obtain ⟨m1, m2⟩ := M_full (s := s) h hP p2 (fun i hi => (p6 i (by omega)).1) (z := pn_len k v) (by omega)
  unfold f_M_put
  rw [M_in, Option.bind_some, if_pos (M_r14 h1 h4), if_neg (by decide), M_in, Option.bind_some, if_pos (M_r08 h8), if_neg (by decide), mf_21, Option.bind_some, hc, if_pos rfl, pm_lengthOf (by omega), Option.bind_some, mM_ob, Option.bind_some]
  refine ⟨fun nf c6 => ?_, fun hcase => ?_⟩
  · rw [m1 nf c6, Option.bind_some, if_neg (by decide), Option.bind_some, mw_0, Option.bind_some, mf_0, Option.bind_some, uI_at, if_neg (by decide)]
  · rw [m2 hcase, Option.bind_some, if_pos rfl, Option.bind_some, mw_0, Option.bind_some, mf_0, Option.bind_some, uI_at, if_pos (by decide), mM_ob, Option.bind_some]
    obtain ⟨r, hr6, t1⟩ := pm_tgt_r (last := last) hcase p2 (fun h => (p3 h).1)
    obtain ⟨I2, L2, e2, q1, q2, q3, q4⟩ := M_app_all (s := s) (h.f0 0) hP hp h1 h4 (Or.inl h8) key value hcase (tomb := false) (fun v11 => (f_M_cut v11 key (nI k)).bind fun v12 => (aw_gI v11 (some (b + 211)) 7 22).bind fun v13 => (aw_gR v11 (some (b + 211)) 7 9).bind fun v14 => (aw_gI v11 (some (b + 211)) 7 1).bind fun v15 => (aw_aI v11 v14 1 (v15 - (1 : Int32))).bind fun v16 => (aw_obj v11 (some (b + 211)) 7).bind fun v17 => (f_M_set v11 (some (b + 211)) v12 (nI k) v13 (v16 - (1 : Int32))).bind fun v18 => some v18) (fun J1 J2 hJ => by
      rw [t1] at hJ
      rw [pm_cut key (by omega), Option.bind_some, mf_22, Option.bind_some, mg_9 hP, Option.bind_some, mf_1, Option.bind_some, hJ, nI_pred, ma_219 (by omega), Option.bind_some, mM_ob, Option.bind_some, if_neg (by decide), t1, Nat.add_sub_cancel]
      cases f_M_set (s, pw_lay (pw_σ b) (J1, J2, ρ)) (some (b + 211)) (lN (pn_cut key k)) (nI k) (J1 (b + 211) 22) (J1 (b + 219) r - 1) <;> rfl)
    refine ⟨I2, L2, e2, by rw [q1, uI_at], q2, mfr.trans (mfr.uI (Q := fun a _ => mCM b a) ⟨by omega, by omega⟩) q3, q4⟩
theorem M_del_bad {key : Int64} {p : Int32} (h : p < 1 ∨ ¬ p ≤ 4) : f_M_delete (s, pw_lay (pw_σ b) (I, L, ρ)) (some (b + 211)) key p = some (0, (s, pw_lay (pw_σ b) (uI I (b + 211) 0 1, L, ρ))) := by
  have c : ¬ (¬ p < 1 ∧ p ≤ 4) := fun hc => h.elim hc.1 (fun h => h hc.2)
  unfold f_M_delete
  rw [M_in, Option.bind_some, if_neg c, if_pos rfl, Option.bind_some, mw_0, Option.bind_some, mf_0, Option.bind_some, uI_at, if_pos (by decide)]
theorem M_del_cl (h : MR I L b φ sl cnt act last time true D ou made taken af ar src) {key : Int64} {k : Nat} (h1 : 1 ≤ k) (h4 : k ≤ 4) : f_M_delete (s, pw_lay (pw_σ b) (I, L, ρ)) (some (b + 211)) key (nI k) = some (0, (s, pw_lay (pw_σ b) (uI I (b + 211) 0 2, L, ρ))) := by
  have hc : I (b + 211) 21 = 1 := h.2.1
  unfold f_M_delete
  rw [M_in, Option.bind_some, if_pos (M_r14 h1 h4), if_neg (by decide), mf_21, Option.bind_some, hc, if_neg (by decide), Option.bind_some, mw_0, Option.bind_some, mf_0, Option.bind_some, uI_at, if_pos (by decide)]
theorem M_del_op (h : MR I L b φ sl cnt act last time false D ou made taken af ar src) (hP : mP b ρ) (hp : pm_pre φ sl cnt act last time D ou made taken src) {key : Int64} {k : Nat} (h1 : 1 ≤ k) (h4 : k ≤ 4) :
    (pe_find (pn_rank k (pn_cut key k)) D = none → f_M_delete (s, pw_lay (pw_σ b) (I, L, ρ)) (some (b + 211)) key (nI k) = some (0, (s, pw_lay (pw_σ b) (uI I (b + 211) 0 0, L, ρ)))) ∧
    (pe_find (pn_rank k (pn_cut key k)) D ≠ none → ¬ pk_fit φ sl cnt act (pn_len k 255) → cnt = 6 → f_M_delete (s, pw_lay (pw_σ b) (I, L, ρ)) (some (b + 211)) key (nI k) = some (0, (s, pw_lay (pw_σ b) (uI (uI I (b + 211) 0 0) (b + 211) 0 3, L, ρ)))) ∧
    (pe_find (pn_rank k (pn_cut key k)) D ≠ none → pk_fit φ sl cnt act (pn_len k 255) ∨ cnt < 6 → ∃ I' L', f_M_delete (s, pw_lay (pw_σ b) (I, L, ρ)) (some (b + 211)) key (nI k) = some (1, (s, pw_lay (pw_σ b) (I', L', ρ))) ∧ I' (b + 211) 0 = 0 ∧
      MR I' L' b (pu (pk_tgt φ sl cnt act last (pn_len k 255)).2.1 (pk_tgt φ sl cnt act last (pn_len k 255)).1 (pt_app ((pk_tgt φ sl cnt act last (pn_len k 255)).2.1 (pk_tgt φ sl cnt act last (pn_len k 255)).1) time k (pn_cut key k) 255 0)) sl (pk_tgt φ sl cnt act last (pn_len k 255)).2.2.1 true (pk_tgt φ sl cnt act last (pn_len k 255)).2.2.2 ((time + 1) % 65536) false (pe_en (pn_rank k (pn_cut key k)) ((pk_tgt φ sl cnt act last (pn_len k 255)).1, ((pk_tgt φ sl cnt act last (pn_len k 255)).2.1 (pk_tgt φ sl cnt act last (pn_len k 255)).1).2.2.2.2.length) true D) ou made taken af ar src ∧ mfr I I' (fun a _ => mCM b a) ∧ ∀ a, a ≠ b + 225 → L' a = L a) := by
  have hc : I (b + 211) 21 = 0 := h.2.1
  have h0 := h.f0 0
  obtain ⟨n, E, hd, hr⟩ := h0.2.2.2.1
  have hp' := hp
  obtain ⟨p1, p2, p3, p4, p5, p6, p7, p8, p9, -⟩ := hp'
  have hcut : pn_cut key k < 2 ^ 32 := Nat.lt_of_lt_of_le (pn_cut_lt key k) (Nat.pow_le_pow_right (by decide) (by omega))
  obtain ⟨m1, m2⟩ := M_full (s := s) h0 hP p2 (fun i hi => (p6 i (by omega)).1) (z := 8 + k) (by omega)
  have e8 : pn_len k 255 = 8 + k := by unfold pn_len; rw [if_pos rfl]; rfl
  unfold f_M_delete
  rw [M_in, Option.bind_some, if_pos (M_r14 h1 h4), if_neg (by decide), mf_21, Option.bind_some, hc, if_pos rfl, Option.bind_some, mw_0, Option.bind_some, mf_0, Option.bind_some, uI_at, if_neg (by decide), pm_cut key (by omega), Option.bind_some, mM_ob, Option.bind_some]
  refine ⟨fun hq => ?_, fun hq nf c6 => ?_, fun hq hcase => ?_⟩
  · rw [M_find_no hP hd hcut (by omega) (hr.nope p8 hq), Option.bind_some, if_neg (by decide)]
  · obtain ⟨q, hq⟩ : ∃ q, pe_find (pn_rank k (pn_cut key k)) D = some q := by
      cases h9 : pe_find (pn_rank k (pn_cut key k)) D with
      | none => exact absurd h9 hq
      | some q => exact ⟨q, rfl⟩
    obtain ⟨j, hj, a1, a2, -⟩ := hr.find h1 h4 hq
    have hj66 := hd.2.1
    rw [M_find_at hP hd hr.inj hj a1 a2, Option.bind_some, if_pos (nI_pos' (by omega)), show (8 : Int32) + nI k = nI (8 + k) from nI_add 8 k]
    rw [e8] at nf
    rw [m1 nf c6, Option.bind_some, Option.bind_some, if_neg (by decide), mw_0, Option.bind_some]
  · obtain ⟨q, hq⟩ : ∃ q, pe_find (pn_rank k (pn_cut key k)) D = some q := by
      cases h9 : pe_find (pn_rank k (pn_cut key k)) D with
      | none => exact absurd h9 hq
      | some q => exact ⟨q, rfl⟩
    obtain ⟨j, hj, a1, a2, -⟩ := hr.find h1 h4 hq
    have hj66 := hd.2.1
    have hcase' : pk_fit φ sl cnt act (8 + k) ∨ cnt < 6 := by rw [← e8]; exact hcase
    rw [M_find_at hP hd hr.inj hj a1 a2, Option.bind_some, if_pos (nI_pos' (by omega)), show (8 : Int32) + nI k = nI (8 + k) from nI_add 8 k, m2 hcase', Option.bind_some, Option.bind_some, if_pos rfl, Option.bind_some]
    obtain ⟨I2, L2, e2, q1, q2, q3, q4⟩ := M_app_all (s := s) h0 hP hp h1 h4 (Or.inr rfl) key 0 hcase (tomb := true) (fun v12 => (f_M_cut v12 key (nI k)).bind fun v13 => (aw_obj v12 (some (b + 211)) 7).bind fun v14 => f_M_unset v12 (some (b + 211)) v13 (nI k)) (fun J1 J2 hJ => by
      rw [pm_cut key (by omega), Option.bind_some, mM_ob, Option.bind_some, if_pos rfl])
    have e3 : ((f_M_append (s, pw_lay (pw_σ b) (uI I (b + 211) 0 0, L, ρ)) (some (b + 211)) key (nI k) 0 255).bind fun v12 => (f_M_cut v12 key (nI k)).bind fun v13 => (aw_obj v12 (some (b + 211)) 7).bind fun v14 => (f_M_unset v12 (some (b + 211)) v13 (nI k)).bind fun v15 => some ((1 : Int32), v15)) = some (1, (s, pw_lay (pw_σ b) (I2, L2, ρ))) := by
      have e255 : (255 : Int32) = nI 255 := rfl
      rw [e255]
      cases hX : f_M_append (s, pw_lay (pw_σ b) (uI I (b + 211) 0 0, L, ρ)) (some (b + 211)) key (nI k) 0 (nI 255) with
      | none => rw [hX] at e2; cases e2
      | some w =>
        rw [hX, Option.bind_some] at e2
        rw [Option.bind_some]
        cases hY : f_M_cut w key (nI k) with
        | none => rw [hY] at e2; cases e2
        | some y =>
          rw [hY, Option.bind_some] at e2
          rw [Option.bind_some]
          cases hZ : aw_obj w (some (b + 211)) 7 with
          | none => rw [hZ] at e2; cases e2
          | some z =>
            rw [hZ, Option.bind_some] at e2
            rw [Option.bind_some, e2]
            rfl
    exact ⟨I2, L2, e3, by rw [q1, uI_at], q2, mfr.trans (mfr.uI (Q := fun a _ => mCM b a) ⟨by omega, by omega⟩) q3, q4⟩
end
