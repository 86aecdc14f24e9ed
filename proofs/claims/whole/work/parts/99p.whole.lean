/-! ===== the reference's merge, its call ===== -/
section
variable {I I' J : mN} {L L' : mL} {ρ : mQ} {s : Option Nat} {b n : Nat} {φ φ' : Nat → qf} {sl fs : List Nat} {cnt : Nat} {act : Bool} {last time : Nat} {cl : Bool} {D : List (Nat × Nat × Nat)} {ou : List Nat} {made taken af ar : Nat} {src : Nat → Nat → Nat × Nat} {M : qM}
/-- the sealed files' count -/
theorem M_sealed (h : MR I L b φ sl cnt act last time cl D ou made taken af ar src) (ha : act = true → 0 < cnt) {β : Type} {F : Int32 → Option β} : ((aw_gI (s, pw_lay (pw_σ b) (I, L, ρ)) (some (b + 211)) 7 20).bind fun v1 =>
  (if v1 = 0 then
      (aw_gI (s, pw_lay (pw_σ b) (I, L, ρ)) (some (b + 211)) 7 1).bind fun v2 =>
      some v2
    else
      (aw_gI (s, pw_lay (pw_σ b) (I, L, ρ)) (some (b + 211)) 7 1).bind fun v3 =>
      some (v3 - (1 : Int32)) : Option (Int32)).bind F) = F (nI (if act then cnt - 1 else cnt)) := by
  obtain ⟨⟨a1, a2, a3, a4⟩, -⟩ := h
  rw [mf_20, Option.bind_some, a2]
  cases act with
  | false => rw [if_neg (show ¬ false = true by decide), if_pos rfl, mf_1, Option.bind_some, Option.bind_some, a1, if_neg (show ¬ false = true by decide)]
  | true =>
    have := ha rfl
    rw [if_pos rfl, if_neg (show ¬ (1 : Int32) = 0 by decide), mf_1, Option.bind_some, Option.bind_some, a1, if_pos rfl, show (1 : Int32) = nI 1 from rfl, nI_sub (by omega)]
theorem M_merge_bad (h : MR I L b φ sl cnt act last time cl D ou made taken af ar src) (ha : act = true → 0 < cnt) {p : Int32} (hp : p < 1 ∨ ¬ p ≤ 20) : f_M_merge (s, pw_lay (pw_σ b) (I, L, ρ)) (some (b + 211)) p = some (0, (s, pw_lay (pw_σ b) (uI I (b + 211) 0 1, L, ρ))) := by
  unfold f_M_merge
  rw [M_sealed h ha, M_in, Option.bind_some, if_neg (show ¬ (¬ p < 1 ∧ p ≤ 20) from fun hc => hp.elim hc.1 (fun h => h hc.2)), if_pos rfl, Option.bind_some, mw_0, Option.bind_some, mf_0, Option.bind_some, uI_at, if_neg (by decide)]
theorem M_in20 {w : aw_W} (h1 : 1 ≤ n) (h2 : n ≤ 20) : f_M_in w (nI n) 1 20 = some 1 := by
  rw [M_in, if_pos ⟨show ¬ nI n < 1 from nI_nlt (b := 1) h1 (by omega), show nI n ≤ 20 from nI_le (b := 20) h2 (by decide)⟩]
theorem M_merge_cl (h : MR I L b φ sl cnt act last time true D ou made taken af ar src) (ha : act = true → 0 < cnt) (h1 : 1 ≤ n) (h2 : n ≤ 20) : f_M_merge (s, pw_lay (pw_σ b) (I, L, ρ)) (some (b + 211)) (nI n) = some (0, (s, pw_lay (pw_σ b) (uI I (b + 211) 0 2, L, ρ))) := by
  unfold f_M_merge
  rw [M_sealed h ha, M_in20 h1 h2, Option.bind_some, if_neg (show ¬ (1 : Int32) = 0 by decide), mf_21, Option.bind_some, h.2.1, if_pos rfl, if_neg (show ¬ (1 : Int32) = 0 by decide), Option.bind_some, mw_0, Option.bind_some, mf_0, Option.bind_some, uI_at, if_neg (by decide)]
theorem M_merge_no (h : MR I L b φ sl cnt act last time false D ou made 0 af ar src) (ha : act = true → 0 < cnt) (h0 : (if act then cnt - 1 else cnt) = 0) (h1 : 1 ≤ n) (h2 : n ≤ 20) : f_M_merge (s, pw_lay (pw_σ b) (I, L, ρ)) (some (b + 211)) (nI n) = some (0, (s, pw_lay (pw_σ b) (uI I (b + 211) 0 2, L, ρ))) := by
  unfold f_M_merge
  rw [M_sealed h ha, M_in20 h1 h2, Option.bind_some, if_neg (show ¬ (1 : Int32) = 0 by decide), mf_21, Option.bind_some, h.2.1, if_neg (show ¬ false = true by decide), if_pos rfl, mf_24, Option.bind_some, h.2.2.2.2.1, if_pos rfl, if_pos rfl, h0, if_pos (show nI 0 = 0 from rfl), Option.bind_some, mw_0, Option.bind_some, mf_0, Option.bind_some, uI_at, if_neg (by decide)]
/-- what a merge's call leaves in the reference -/
def MmP (I I' : mN) (L : mL) (b time : Nat) (sl ou : List Nat) (cnt : Nat) (act : Bool) (last : Nat) (D : List (Nat × Nat × Nat)) (taken : Nat) (K : qM) : Prop :=
  I' (b + 211) 0 = 0 ∧ mfr I I' (fun a _ => mCM b a) ∧ (K.2.2.1 < taken → MR I' L b K.1 sl cnt act last time false D ou K.2.1 taken K.2.2.1 K.2.2.2.1 K.2.2.2.2) ∧
  (¬ K.2.2.1 < taken → ∀ sl' ou', (∀ j, j < K.2.1 → sl'.getD j 0 = ou.getD j 0) → (∀ j, K.2.1 ≤ j → j < cnt - (taken - K.2.1) → sl'.getD j 0 = sl.getD (j + (taken - K.2.1)) 0) → MR I' L b (φx K.1 sl ou K.2.1) sl' (cnt - (taken - K.2.1)) act last time false (Dx K.1 ou K.2.2.2.2 D K.2.1) ou' K.2.1 0 K.2.2.1 K.2.2.2.1 K.2.2.2.2)
theorem M_merge_on (hP : mP b ρ) (h : MR I L b M.1 sl cnt act last time false D ou M.2.1 taken M.2.2.1 M.2.2.2.1 M.2.2.2.2) (ha : act = true → 0 < cnt) (ht0 : 0 < taken) (hsk : pk_skM sl taken M = M) (hs : dS D) (hnum : pk_nums M.1 sl cnt) (hn5 : ∀ i, i < cnt → (M.1 (sl.getD i 0)).1 < 100000) (ok : dOK M.1 (sl.take cnt) D) (hI : mI b sl ou D taken M) (ap : pk_ap sl ou) (hbo : ∀ o, o < 6 → isB b (ou.getD o 0)) (hbs : ∀ i, i < 6 → isB b (sl.getD i 0)) (h6 : cnt ≤ 6) (ht : taken ≤ cnt) (hz : ∀ i, i < 6 → mZ (M.1 (sl.getD i 0)) ∧ mZ (M.1 (ou.getD i 0))) (h1 : 1 ≤ n) (h2 : n ≤ 20) :
    ∃ I', f_M_merge (s, pw_lay (pw_σ b) (I, L, ρ)) (some (b + 211)) (nI n) = some (if (pk_adv sl ou D taken n M).2.2.1 < taken then 0 else 1, (s, pw_lay (pw_σ b) (I', L, ρ))) ∧ MmP I I' L b time sl ou cnt act last D taken (pk_adv sl ou D taken n M) := by
  have h0 := h.f0 0
  rw [← hsk] at h0
  obtain ⟨I', e, q1, q2, q3⟩ := M_merge_tail (s := s) hP h0 ht0 hs hnum hn5 ok hI ap hbo hbs h6 ht hz h2
  refine ⟨I', ?_, by rw [q1, uI_at], (mfr.uI (by unfold mCM; omega)).trans q2, q3⟩
  unfold f_M_merge
  have e24 := h0.2.2.2.2.1
  rw [if_neg (show ¬ taken = 0 by omega)] at e24
  have e24' := h.2.2.2.2.1
  rw [if_neg (show ¬ taken = 0 by omega)] at e24'
  rw [M_sealed h ha, M_in20 h1 h2, Option.bind_some, if_neg (show ¬ (1 : Int32) = 0 by decide), mf_21, Option.bind_some, h.2.1, if_neg (show ¬ false = true by decide), if_pos rfl, mf_24, Option.bind_some, e24', if_neg (show ¬ (1 : Int32) = 0 by decide), Option.bind_some, mw_0, Option.bind_some, mf_0, Option.bind_some, uI_at, if_pos (by decide), mf_24, Option.bind_some, e24, if_neg (show ¬ (1 : Int32) = 0 by decide), Option.bind_some]
  exact e
theorem M_merge_new (hP : mP b ρ) (h : MR I L b φ sl cnt act last time false D ou made 0 af ar src) (ha : act = true → 0 < cnt) {T : Nat} (hT : T = if act then cnt - 1 else cnt) (ht0 : 0 < T) (hs : dS D) (hnum : pk_nums φ sl cnt) (hn5 : ∀ i, i < cnt → (φ (sl.getD i 0)).1 < 100000) (ok : dOK φ (sl.take cnt) D) (hI : mI b sl ou D T (φ, 0, 0, 0, src)) (ap : pk_ap sl ou) (hbo : ∀ o, o < 6 → isB b (ou.getD o 0)) (hbs : ∀ i, i < 6 → isB b (sl.getD i 0)) (h6 : cnt ≤ 6) (hz : ∀ i, i < 6 → mZ (φ (sl.getD i 0)) ∧ mZ (φ (ou.getD i 0))) (h1 : 1 ≤ n) (h2 : n ≤ 20) :
    ∃ I', f_M_merge (s, pw_lay (pw_σ b) (I, L, ρ)) (some (b + 211)) (nI n) = some (if (pk_adv sl ou D T n (φ, 0, 0, 0, src)).2.2.1 < T then 0 else 1, (s, pw_lay (pw_σ b) (I', L, ρ))) ∧ MmP I I' L b time sl ou cnt act last D T (pk_adv sl ou D T n (φ, 0, 0, 0, src)) := by
  have htc : T ≤ cnt := by rw [hT]; split <;> omega
  have e24 := h.2.2.2.2.1
  rw [if_pos rfl] at e24
  have h0 := h.f0 0
  have e24' := h0.2.2.2.2.1
  rw [if_pos rfl] at e24'
  obtain ⟨⟨a1, a2, a3, a4⟩, hcl, hmF, ⟨nn, E, hd, hr⟩, -⟩ := h0
  generalize hI0 : uI I (b + 211) 0 0 = I0 at *
  -- the fields are set
  let J := uI (uI (uI (uI (uI I0 (b + 211) 24 1) (b + 211) 25 (nI T)) (b + 211) 26 0) (b + 211) 27 0) (b + 211) 28 0
  have gJ : mfr I0 J (fun a k => a = b + 211 ∧ 24 ≤ k ∧ k ≤ 28) := ((((mfr.uI ⟨rfl, by omega⟩).trans (mfr.uI ⟨rfl, by omega⟩)).trans (mfr.uI ⟨rfl, by omega⟩)).trans (mfr.uI ⟨rfl, by omega⟩)).trans (mfr.uI ⟨rfl, by omega⟩)
  have jm : mrM J b sl ou cnt T (φ, 0, 0, 0, src) := by
    refine ⟨((((hmF.fld _ _).fld _ _).fld _ _).fld _ _).fld _ _, ?_, ?_, ?_, uI_at, fun o ho => absurd ho (Nat.not_lt_zero _)⟩
    · show uI _ _ _ _ _ _ = _
      rw [uI_ne (by omega), uI_ne (by omega), uI_ne (by omega), uI_at]
    · show uI _ _ _ _ _ _ = _
      rw [uI_ne (by omega), uI_ne (by omega), uI_at]
      rfl
    · show uI _ _ _ _ _ _ = _
      rw [uI_ne (by omega), uI_at]
      rfl
  obtain ⟨J2, e2, m2, g2⟩ := M_skip (s := s) (L := L) hP jm h6 htc (Nat.zero_le _) (fun i hi => (hz i (by omega)).1) (fun _ => Nat.zero_le _)
  have f2 : ∀ k, k < 24 → J2 (b + 211) k = I0 (b + 211) k := fun k hk => by rw [g2 _ _ (fun hc => by omega), gJ _ _ (fun hc => by omega)]
  have f24 : J2 (b + 211) 24 = 1 := by
    rw [g2 _ _ (fun hc => by omega)]
    show uI _ _ _ _ _ _ = _
    rw [uI_ne (by omega), uI_ne (by omega), uI_ne (by omega), uI_ne (by omega), uI_at]
  have hR2 : MR J2 L b (pk_skM sl T (φ, 0, 0, 0, src)).1 sl cnt act last time false D ou (pk_skM sl T (φ, 0, 0, 0, src)).2.1 T (pk_skM sl T (φ, 0, 0, 0, src)).2.2.1 (pk_skM sl T (φ, 0, 0, 0, src)).2.2.2.1 (pk_skM sl T (φ, 0, 0, 0, src)).2.2.2.2 := m2.MR ⟨by rw [f2 1 (by decide)]; exact a1, by rw [f2 20 (by decide)]; exact a2, by rw [f2 22 (by decide)]; exact a3, by rw [f2 23 (by decide)]; exact a4⟩ (by rw [f2 21 (by decide)]; exact hcl) ⟨nn, E, (hd.fr gJ (fun a k hk hc => by omega)).fr g2 (fun a k hk hc => by omega), hr⟩ (by rw [if_neg (by omega)]; exact f24)
  obtain ⟨I', e, q1, q2, q3⟩ := M_merge_tail (s := s) hP hR2 ht0 hs hnum hn5 ok hI ap hbo hbs h6 htc hz h2
  have e00 : I0 (b + 211) 0 = 0 := by rw [← hI0, uI_at]
  refine ⟨I', ?_, by rw [q1, f2 0 (by decide), e00], ?_, q3⟩
  · unfold f_M_merge
    rw [M_sealed h ha, M_in20 h1 h2, Option.bind_some, if_neg (show ¬ (1 : Int32) = 0 by decide), mf_21, Option.bind_some, h.2.1, if_neg (show ¬ false = true by decide), if_pos rfl, mf_24, Option.bind_some, e24, if_pos rfl, ← hT, if_neg (nI_ne0 ht0 (by omega)), Option.bind_some, mw_0, Option.bind_some, hI0, mf_0, Option.bind_some, e00, if_pos (by decide), mf_24, Option.bind_some, e24', if_pos rfl, mw_24, Option.bind_some, mw_25, Option.bind_some, mw_26, Option.bind_some, mw_27, Option.bind_some, mw_28, Option.bind_some, mM_ob, Option.bind_some]
    have e2' : f_M_skip (s, pw_lay (pw_σ b) (uI (uI (uI (uI (uI I0 (b + 211) 24 1) (b + 211) 25 (nI T)) (b + 211) 26 0) (b + 211) 27 0) (b + 211) 28 0, L, ρ)) (some (b + 211)) = some (s, pw_lay (pw_σ b) (J2, L, ρ)) := e2
    rw [e2', Option.bind_some, Option.bind_some]
    exact e
  · have g0 : mfr I I0 (fun a _ => mCM b a) := by rw [← hI0]; exact mfr.uI (by unfold mCM; omega)
    exact ((g0.trans (gJ.mono (fun a k hk => by unfold mCM; omega))).trans (g2.mono (fun a k hk => by unfold mCM; omega))).trans q2
end
