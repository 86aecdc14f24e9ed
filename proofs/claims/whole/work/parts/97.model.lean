/-! ===== the reference's answers, on ===== -/
theorem M_in0 {p : Int32} {n : Nat} (hn : n < 2 ^ 20) : (¬ p < 0 ∧ p ≤ nI n - 1) ↔ (¬ p < 0 ∧ p.toNatClampNeg < n) := by
  refine and_congr_right fun h => ?_
  obtain ⟨j, hj, rfl⟩ := nI_of h
  rw [nI_clamp hj]
  cases n with
  | zero =>
    refine ⟨fun hc => ?_, fun hc => absurd hc (Nat.not_lt_zero _)⟩
    exfalso
    rw [Int32.le_iff_toInt_le, nI_toInt hj, show (nI 0 - 1).toInt = -1 by decide] at hc
    omega
  | succ n =>
    rw [nI_pred, nI_leI hj (by omega)]
    omega
theorem perm_sum {l m : List Nat} (h : l.Perm m) : l.sum = m.sum := by
  induction h with
  | nil => rfl
  | cons x _ ih => rw [List.sum_cons, List.sum_cons, ih]
  | swap x y l => rw [List.sum_cons, List.sum_cons, List.sum_cons, List.sum_cons]; omega
  | trans _ _ ih1 ih2 => rw [ih1, ih2]
section
variable {I I' : mN} {L L' : mL} {ρ : mQ} {s : Option Nat} {b : Nat} {φ φ' : Nat → qf} {sl : List Nat} {cnt : Nat} {act : Bool} {last time : Nat} {cl : Bool} {D : List (Nat × Nat × Nat)} {ou : List Nat} {made taken af ar : Nat} {src : Nat → Nat → Nat × Nat}
theorem M_key_bad {p1 p2 : Int32} (h : p2 < 0 ∨ ¬ p2 ≤ 3) : f_M_key (s, pw_lay (pw_σ b) (I, L, ρ)) (some (b + 211)) p1 p2 = some (0, (s, pw_lay (pw_σ b) (uI I (b + 211) 0 1, L, ρ))) := by
  have c : ¬ (¬ p2 < 0 ∧ p2 ≤ 3) := fun hc => h.elim hc.1 (fun h => h hc.2)
  unfold f_M_key
  rw [M_in, Option.bind_some, if_neg c, if_pos rfl, Option.bind_some, mw_0, Option.bind_some, mf_0, Option.bind_some, uI_at, if_neg (by decide)]
theorem M_key_cl (h : MR I L b φ sl cnt act last time true D ou made taken af ar src) {p1 p2 : Int32} (h1 : ¬ p2 < 0) (h2 : p2 ≤ 3) : f_M_key (s, pw_lay (pw_σ b) (I, L, ρ)) (some (b + 211)) p1 p2 = some (0, (s, pw_lay (pw_σ b) (uI I (b + 211) 0 2, L, ρ))) := by
  have hc : I (b + 211) 21 = 1 := h.2.1
  unfold f_M_key
  rw [M_in, Option.bind_some, if_pos (show ¬ p2 < 0 ∧ p2 ≤ 3 from ⟨h1, h2⟩), if_neg (by decide), mf_21, Option.bind_some, hc, if_neg (by decide), Option.bind_some, mw_0, Option.bind_some, mf_0, Option.bind_some, uI_at, if_neg (by decide)]
theorem M_key_op (h : MR I L b φ sl cnt act last time false D ou made taken af ar src) (hP : mP b ρ) (h6 : cnt ≤ 6) (hs : dS D) (hnum : pk_nums φ sl cnt) {p1 p2 : Int32} (h1 : ¬ p2 < 0) (h2 : p2 ≤ 3) :
    (p1 < 0 ∨ D[p1.toNatClampNeg]? = none → f_M_key (s, pw_lay (pw_σ b) (I, L, ρ)) (some (b + 211)) p1 p2 = some (0, (s, pw_lay (pw_σ b) (uI I (b + 211) 0 3, L, ρ)))) ∧
    (∀ e r i, ¬ p1 < 0 → D[p1.toNatClampNeg]? = some e → i < cnt → e.2.1 = sl.getD i 0 → (φ e.2.1).2.2.2.2[e.2.2]? = some r → e.1 = pn_rank r.2.1 r.2.2.1 → rV r → e.2.2 < 11 → f_M_key (s, pw_lay (pw_σ b) (I, L, ρ)) (some (b + 211)) p1 p2 = some (pk_key φ e p2, (s, pw_lay (pw_σ b) (uI I (b + 211) 0 0, L, ρ)))) := by
  have hc : I (b + 211) 21 = 0 := h.2.1
  obtain ⟨n, E, hd0, hr⟩ := h.2.2.2.1
  have h66 := hd0.2.1
  unfold f_M_key
  rw [M_in, Option.bind_some, if_pos (show ¬ p2 < 0 ∧ p2 ≤ 3 from ⟨h1, h2⟩), if_neg (by decide), mf_21, Option.bind_some, hc, if_pos rfl, mf_15, Option.bind_some, hd0.1, M_in, Option.bind_some]
  refine ⟨fun hk => ?_, fun e r i hk he hi hei hr0 hrk hrV h11 => ?_⟩
  · rw [if_neg (show ¬ (¬ p1 < 0 ∧ p1 ≤ nI n - 1) from fun hx => by
      have := (M_in0 (by omega)).mp hx
      rcases hk with hk | hk
      · exact this.1 hk
      · rw [List.getElem?_eq_none_iff, ← hr.1] at hk
        omega), if_pos rfl, Option.bind_some, mw_0, Option.bind_some, mf_0, Option.bind_some, uI_at, if_neg (by decide)]
  · have hlt : p1.toNatClampNeg < n := by rw [hr.1]; exact (List.getElem?_eq_some_iff.mp he).1
    obtain ⟨p, hp, rfl⟩ := nI_of hk
    rw [nI_clamp hp] at he hlt
    obtain ⟨-, -, hF, -, -⟩ := h.f0 0
    have hd := hd0.fld (k := 0) (by decide) 0
    obtain ⟨j, hj, a1, a2, a3⟩ := hr.2.2.1 e (List.mem_of_getElem? he)
    obtain ⟨q1, q2, q3, q4, q5, q6, q7, q8⟩ := hd.2.2 j hj
    obtain ⟨c1, c4, cx⟩ := hr.2.1 j hj
    obtain ⟨w1, w2⟩ := hF i hi
    have a2' : (E j).2.2.1 = (φ e.2.1).1 := a2
    have hrk2 := a1.trans hrk
    obtain ⟨k1, k2⟩ := (pn_rank_inj (by omega) (by have := hrV.2.1; omega)).mp hrk2
    have hgd : (φ e.2.1).2.2.2.2.getD e.2.2 (0, 0, 0, 0) = r := by unfold List.getD; rw [hr0]; rfl
    rw [← hei] at w2
    obtain ⟨g1, g2, g3⟩ := w2.2.2.2.2.2.2.2 e.2.2 r hr0
    have hrow : f_M_rowOf (s, pw_lay (pw_σ b) (uI I (b + 211) 0 0, L, ρ)) (some (b + 211)) (nI (E j).2.2.1) = some (nI i) := by
      have := M_rowOf (s := s) (L := L) (I := uI I (b + 211) 0 0) hP (nm := fun i => (φ (sl.getD i 0)).1) (cnt := cnt) (i := i) (by omega) (fun j hj => ⟨(hF j hj).1, Nat.lt_trans (hnum j hj).1 (by decide)⟩) hi (fun j hj e => (hnum i hi).2 j hj e)
      rw [a2', hei]
      exact this
    rw [if_pos (show ¬ nI p < 0 ∧ nI p ≤ nI n - 1 from (M_in0 (by omega)).mpr ⟨hk, by rw [nI_clamp hp]; exact hlt⟩), if_neg (by decide), Option.bind_some, mw_0, Option.bind_some, mf_0, Option.bind_some, uI_at, if_pos (by decide), mM_ob, Option.bind_some, M_ordered hP hd hr hs he hj a1, Option.bind_some, mg_18 hP, Option.bind_some, ma_227 (by omega), Option.bind_some, q3, Option.bind_some, hrow, Option.bind_some]
    unfold pk_key
    rw [hgd]
    by_cases x0 : p2 = 0
    · rw [if_pos x0, if_pos x0, mg_17 hP, Option.bind_some, ma_226 (by omega), Option.bind_some, q2, k1]
      rfl
    · rw [if_neg x0, if_neg x0]
      by_cases x1 : p2 = 1
      · rw [if_pos x1, if_pos x1, mg_16 hP, Option.bind_some, ma_225 (by omega), Option.bind_some, q1, k2]
        rfl
      · rw [if_neg x1, if_neg x1]
        by_cases x2 : p2 = 2
        · rw [if_pos x2, if_pos x2, Option.bind_some, ma_227 (by omega), Option.bind_some, q3, a2']
          rfl
        · rw [if_neg x2, if_neg x2, mg_10 hP, Option.bind_some, mg_19 hP, Option.bind_some, ma_228 (by omega), Option.bind_some, q4, a3, nI_12, ma_220 (by omega), Option.bind_some, g1]
          rfl
theorem M_files_ok (h : MR I L b φ sl cnt act last time cl D ou made taken af ar src) : f_M_files (s, pw_lay (pw_σ b) (I, L, ρ)) (some (b + 211)) = some (nI cnt, (s, pw_lay (pw_σ b) (uI I (b + 211) 0 0, L, ρ))) := by
  unfold f_M_files
  rw [mw_0, Option.bind_some, mf_1, Option.bind_some, uI_ne (by omega), h.1.1]
theorem M_sync_cl (h : MR I L b φ sl cnt act last time true D ou made taken af ar src) : f_M_sync (s, pw_lay (pw_σ b) (I, L, ρ)) (some (b + 211)) = some (s, pw_lay (pw_σ b) (uI I (b + 211) 0 1, L, ρ)) := by
  have hc : I (b + 211) 21 = 1 := h.2.1
  unfold f_M_sync
  rw [mf_21, Option.bind_some, hc, if_neg (by decide), Option.bind_some, mw_0, Option.bind_some, mf_0, Option.bind_some, uI_at, if_neg (by decide)]
  rfl
/-- a file's row changes, and nothing else -/
theorem MR.row (h : MR I L b φ sl cnt act last time cl D ou made taken af ar src) (ap : pk_ap sl ou) (h6 : cnt ≤ 6) (hm : 0 < taken → made ≤ 6) (hz : ∀ i, i < 6 → mZ (φ (sl.getD i 0)) ∧ mZ (φ (ou.getD i 0))) {i : Nat} (hi : i < cnt) {t : qf} (ht : t.1 = (φ (sl.getD i 0)).1) (g : mfr I I' (fun a k => mC b i a k ∧ a ≠ b + 212)) (hw : mW I' b i t) : MR I' L b (pu φ (sl.getD i 0) t) sl cnt act last time cl D ou made taken af ar src := by
  obtain ⟨⟨a1, a2, a3, a4⟩, h2, h3, ⟨n, E, h4, h5⟩, h6', h7⟩ := h
  have fl : ∀ c, I' (b + 211) c = I (b + 211) c := fun c => g _ _ (fun hc => by unfold mC at hc; omega)
  have hn : ∀ f, (pu φ (sl.getD i 0) t f).1 = (φ f).1 := fun f => by
    by_cases c : f = sl.getD i 0
    · rw [c, pu_at, ht]
    · rw [pu_ne c]
  refine ⟨⟨by rw [fl]; exact a1, by rw [fl]; exact a2, by rw [fl]; exact a3, by rw [fl]; exact a4⟩, by rw [fl]; exact h2, fun j hj => ?_, ⟨n, E, h4.fr g (fun a k ha hc => by have := hc.1; unfold mC at this; omega), h5.renm (fun e _ => hn _)⟩, by rw [fl]; exact h6', fun htk => ?_⟩
  · obtain ⟨w1, w2⟩ := h3 j hj
    refine ⟨by rw [g _ _ (fun hc => hc.2 rfl), hn]; exact w1, ?_⟩
    by_cases c : j = i
    · rw [c, pu_at]
      exact hw
    · rw [pu_ne (fun hc => c (ap.2.2.1 j i (by omega) (by omega) hc))]
      exact w2.fr (hz j (by omega)).1 g (fun a k hk hc => mC_ne c hk hc.1)
  · obtain ⟨c1, c2, c3, c4, c5⟩ := h7 htk
    exact ⟨by rw [fl]; exact c1, by rw [fl]; exact c2, by rw [fl]; exact c3, by rw [fl]; exact c4, c5.fr (hm htk) (fun o ho => (hz o ho).2) g (fun o a k ho hk hc => mC_ne (show 6 + o ≠ i by omega) hk hc.1) (fun o ho => pu_ne (fun hc => ap.2.2.2.2 i o (by omega) ho hc.symm)) (fun o j _ _ => hn _)⟩
theorem M_sync_ok (h : MR I L b φ sl cnt act last time false D ou made taken af ar src) (hP : mP b ρ) (ap : pk_ap sl ou) (h6 : cnt ≤ 6) (hpos : act = true → 0 < cnt) (hm : 0 < taken → made ≤ 6) (hz : ∀ i, i < 6 → mZ (φ (sl.getD i 0)) ∧ mZ (φ (ou.getD i 0))) : ∃ I', f_M_sync (s, pw_lay (pw_σ b) (I, L, ρ)) (some (b + 211)) = some (s, pw_lay (pw_σ b) (I', L, ρ)) ∧ I' (b + 211) 0 = 0 ∧ MR I' L b (pu_sync φ sl cnt act) sl cnt act last time false D ou made taken af ar src ∧ mfr I I' (fun a _ => mCM b a) := by
  have hc : I (b + 211) 21 = 0 := h.2.1
  have h0 := h.f0 0
  have h0' := h0
  obtain ⟨⟨a1, a2, a3, a4⟩, h2, h3, -⟩ := h0'
  have g0 : mfr I (uI I (b + 211) 0 0) (fun a _ => mCM b a) := mfr.uI (Q := fun a _ => mCM b a) ⟨by omega, by omega⟩
  unfold f_M_sync pu_sync
  rw [mf_21, Option.bind_some, hc, if_pos rfl, Option.bind_some, mw_0, Option.bind_some, mf_0, Option.bind_some, uI_at, if_pos rfl, mf_20, Option.bind_some, a2]
  cases act with
  | false =>
    simp only [Bool.false_eq_true, if_false, if_true, Option.bind_some]
    exact ⟨_, rfl, uI_at, h0, g0⟩
  | true =>
    have hp := hpos rfl
    obtain ⟨r, rfl⟩ : ∃ r, cnt = r + 1 := ⟨cnt - 1, by omega⟩
    obtain ⟨w1, w2⟩ := h3 r (by omega)
    have e10 : ¬ (1 : Int32) = 0 := by decide
    simp only [if_true, if_neg e10]
    rw [mg_4 hP, Option.bind_some, mf_1, Option.bind_some, mg_3 hP, Option.bind_some, Option.bind_some, a1, nI_pred, ma_213 (by omega), Option.bind_some, w2.1, ms_214 (by omega), Option.bind_some, Option.bind_some, Nat.add_sub_cancel]
    refine ⟨_, rfl, by rw [uI_ne (by omega), uI_at], ?_, g0.trans (mfr.uI (Q := fun a _ => mCM b a) ⟨by omega, by omega⟩)⟩
    exact h0.row ap h6 hm hz (i := r) (by omega) rfl (mfr.uI (Q := fun a k => mC b r a k ∧ a ≠ b + 212) ⟨Or.inl ⟨by omega, rfl⟩, by omega⟩) w2.sync
end
