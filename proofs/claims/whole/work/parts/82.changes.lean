/-! ===== the store's changes: sync, loss, put, delete ===== -/
/-- the store's cells -/
def pw_inC (b : Nat) (a : Nat) : Prop := a < b + 211
theorem pu_sync_ne {φ : Nat → qf} {sl : List Nat} {cnt : Nat} {act : Bool} {g : Nat} (h : g ≠ sl.getD (cnt - 1) 0) : pu_sync φ sl cnt act g = φ g := by
  unfold pu_sync
  split
  · exact pu_ne h
  · rfl
theorem pu_lose_ne {φ : Nat → qf} {sl : List Nat} {cnt : Nat} {act : Bool} {m g : Nat} (h : g ≠ sl.getD (cnt - 1) 0) : pu_lose φ sl cnt act m g = φ g := by
  unfold pu_lose
  split
  · exact pu_ne h
  · rfl
section
variable {μ μ' : pw_Mem} {s : Option Nat} {b : Nat} {φ φ' : Nat → qf} {sl : List Nat} {cnt : Nat} {act : Bool} {last time : Nat} {cl : Bool} {D : List (Nat × Nat × Nat)} {ou fs : List Nat} {made taken af ar : Nat} {src : Nat → Nat → Nat × Nat} {P : Nat → Prop}
theorem kX.keep (h : kX μ ou (φ, made, af, ar, src)) (hm : made ≤ 6) (hF : kF μ b φ) (hb : ∀ o, o < 6 → isB b (ou.getD o 0)) (g : pw_fr μ μ' P) (hP : ∀ o a, o < 6 → pw_in (ou.getD o 0) a → ¬ P a) (hφ : ∀ o, o < 6 → φ' (ou.getD o 0) = φ (ou.getD o 0)) : kX μ' ou (φ', made, af, ar, src) := fun o j ho hj => by
  dsimp only at ho hj ⊢
  rw [hφ o (by omega)] at hj
  have h11 := (hF _ (hb o (by omega))).2.2.2.2.2.2.2.1
  rw [(g _ (hP o _ (by omega) ⟨by omega, by omega⟩)).2.2]
  exact h o j ho hj
theorem pw_sl_ou (ap : pk_ap sl ou) (hbs : ∀ f ∈ sl, isB b f) (hbo : ∀ o, o < 6 → isB b (ou.getD o 0)) {f o a : Nat} (hf : f ∈ sl) (ho : o < 6) (h : pw_in (ou.getD o 0) a) : ¬ pw_in f a := by
  obtain ⟨i, hi, e⟩ := List.mem_iff_getElem.mp hf
  have hne : f ≠ ou.getD o 0 := fun hc => by
    refine ap.2.2.2.2 i o (by rw [← ap.1]; exact hi) ho ?_
    rw [← hc, ← e]
    unfold List.getD
    rw [List.getElem?_eq_getElem hi]
    rfl
  have := (hbs f hf).ap (hbo o ho) hne
  unfold pw_ap at this
  unfold pw_in at h ⊢
  omega
theorem KR.bo (h : KR μ b φ sl cnt act last time cl D ou made taken af ar src) : (∀ f ∈ sl, isB b f) ∧ (∀ i, i < 6 → isB b (sl.getD i 0)) ∧ (∀ o, o < 6 → isB b (ou.getD o 0)) ∧ (∀ i, i < 6 → sl.getD i 0 ∈ sl) := ⟨h.2.1.2.2.2.2.2.2.2.2, fun i hi => (kS_getD h.2.1 hi).2.2, fun o ho => (kG_getD h.2.2.2.2.1 ho).2.2, fun i hi => (kS_getD h.2.1 hi).2.1⟩
theorem L_sync_cl (hA : kA μ b time true) : f_L_sync (s, pw_lay (pw_σ b) μ) (some b) = some (1, (none, pw_lay (pw_σ b) μ)) := by
  unfold f_L_sync f_A_sync
  rw [kA_ob, Option.bind_some, Option.bind_some, kO_no hA]
  simp only [Option.bind_some, if_true]
theorem L_sync_ok (h : KR μ b φ sl cnt act last time false D ou made taken af ar src) (ap : pk_ap sl ou) (hm : 0 < taken → made ≤ 6) : ∃ μ', f_L_sync (s, pw_lay (pw_σ b) μ) (some b) = some (0, (s, pw_lay (pw_σ b) μ')) ∧ KR μ' b (pu_sync φ sl cnt act) sl cnt act last time false D ou made taken af ar src ∧ pw_fr μ μ' (pw_inC b) := by
  obtain ⟨b1, b2, b3, b4⟩ := h.bo
  obtain ⟨hA, hS, hE, hF, hG, hX⟩ := h
  have h6 := hS.2.2.2.2.2.1
  obtain ⟨μ1, e1, s1, f1, g1⟩ := kS_sync (s := s) hS hF
  have nP : ∀ a, (a < b + 3 ∨ (b + 105 ≤ a ∧ a < b + 109) ∨ b + 211 ≤ a) → ¬ ∃ f, f ∈ sl ∧ a = f := fun a ha ⟨f, hf, e⟩ => (b1 f hf).ne ha ⟨by omega, by omega⟩
  unfold f_L_sync f_A_sync
  rw [kA_ob, Option.bind_some, Option.bind_some, kO_ok hA]
  simp only [Option.bind_some, kA_g0 hA, kS_ob, e1]
  refine ⟨μ1, rfl, ⟨hA.fr g1 (nP _ (by omega)), s1, hE.fr g1 (nP _ (by omega)) (nP _ (by omega)), f1, hG.fr g1 (nP _ (by omega)) (nP _ (by omega)), fun ht => ?_⟩, g1.mono (fun a ⟨f, hf, e⟩ => ?_)⟩
  · refine (hX ht).keep (hm ht) hF b3 g1 (fun o a ho ha ⟨f, hf, e⟩ => pw_sl_ou ap b1 b3 hf ho ha ⟨by omega, by omega⟩) (fun o ho => ?_)
    refine pu_sync_ne (fun hc => ?_)
    by_cases hc6 : cnt - 1 < 6
    · exact ap.2.2.2.2 _ o hc6 ho hc.symm
    · omega
  · have := (b1 f hf).at (a := f) ⟨by omega, by omega⟩
    unfold pw_inC
    omega
theorem L_lose_bad {p : Int32} (h : p < 0 ∨ ¬ p ≤ 100) : f_L_lose (s, pw_lay (pw_σ b) μ) (some b) p = some (1, (none, pw_lay (pw_σ b) μ)) := by
  unfold f_L_lose f_A_lose
  rw [kA_ob, Option.bind_some, rg_no h]
  simp only [Option.bind_some, if_true]
theorem L_lose_ok (h : KR μ b φ sl cnt act last time cl D ou made taken af ar src) (hv : ∀ f, isB b f → qV (φ f)) {m : Nat} (hm : m ≤ 100) : ∃ μ', f_L_lose (s, pw_lay (pw_σ b) μ) (some b) (nI m) = some (0, (s, pw_lay (pw_σ b) μ')) ∧ KR μ' b (pu_lose φ sl cnt act m) sl cnt false last time true D ou made 0 af ar src ∧ pw_fr μ μ' (pw_inC b) := by
  obtain ⟨b1, b2, b3, b4⟩ := h.bo
  obtain ⟨hA, hS, hE, hF, hG, hX⟩ := h
  obtain ⟨μ1, e1, s1, f1, g1⟩ := kS_lose (s := s) hS hF (m := m) (fun f hf => by have := (hv f hf).2.2.2.1; have := qF_len (hF f hf); omega)
  have nP : ∀ a, (a < b + 1 ∨ a = b + 2 ∨ (b + 105 ≤ a ∧ a < b + 109) ∨ b + 211 ≤ a) → ¬ (a = b + 1 ∨ ∃ f, f ∈ sl ∧ pw_in f a) := fun a ha hc => by
    rcases hc with hc | ⟨f, hf, hc⟩
    · omega
    · exact (b1 f hf).ne (by omega) hc
  have hA1 := hA.fr g1 (nP _ (by omega))
  have hG1 := hG.fr g1 (nP _ (by omega)) (nP _ (by omega))
  obtain ⟨μ2, e2, k2, g2⟩ := kG_drop (s := s) hG1
  have hA2 := hA1.fr g2 (by omega)
  obtain ⟨μ3, e3, k3, g3⟩ := kA_p4 (s := s) hA2 true
  unfold f_L_lose f_A_lose
  rw [kA_ob, Option.bind_some, rg_ok (nI_pos (by omega)) (show nI m ≤ 100 from nI_le (b := 100) hm (by decide))]
  simp only [Option.bind_some, kA_g0 hA, kS_ob, e1, kA_g2 hA1, kG_ob, e2]
  rw [if_pos rfl] at e3
  rw [e3]
  refine ⟨μ3, rfl, ⟨k3, (s1.fr g2 (by omega) (by omega)).fr g3 (by omega) (by omega), ((hE.fr g1 (nP _ (by omega)) (nP _ (by omega))).fr g2 (by omega) (by omega)).fr g3 (by omega) (by omega), (f1.fr g2 (fun a ha hc => by omega)).fr g3 (fun a ha hc => by omega), k2.fr g3 (by omega) (by omega), fun h => absurd h (Nat.lt_irrefl 0)⟩, ((g1.mono (fun a ha => ?_)).trans (g2.mono (fun a ha => ?_))).trans (g3.mono (fun a ha => ?_))⟩
  · unfold pw_inC
    rcases ha with ha | ⟨f, hf, ha⟩
    · omega
    · have := (b1 f hf).at ha
      omega
  · unfold pw_inC; omega
  · unfold pw_inC; omega
/-- the pure side of appending -/
def pk_pre (b : Nat) (φ : Nat → qf) (sl : List Nat) (cnt : Nat) (act : Bool) (time : Nat) (D : List (Nat × Nat × Nat)) (fs : List Nat) : Prop :=
  (∀ f, isB b f → qV (φ f)) ∧ (∀ f ∈ fs, isB b f) ∧ dOK φ fs D ∧ (∀ z, 9 ≤ z → pk_fit φ sl cnt act z ∨ cnt < 6 → D.length < 66) ∧ time < 65536 ∧ (cnt < 6 → ¬ sl.getD cnt 0 ∈ fs) ∧ (act = true → ∀ z, 9 ≤ z → (φ (sl.getD (cnt - 1) 0)).2.1.length + z ≤ 100 → (φ (sl.getD (cnt - 1) 0)).2.2.2.2.length < 11)
theorem A_append_ok (h : KR μ b φ sl cnt act last time cl D ou made taken af ar src) (ap : pk_ap sl ou) (hm : 0 < taken → made ≤ 6) (hp : pk_pre b φ sl cnt act time D fs) {k x v : Nat} (h1 : 1 ≤ k) (h4 : k ≤ 4) (hx : x < 2 ^ (8 * k)) (hvv : v ≤ 8 ∨ v = 255) (value : Int64) :
    (¬ pk_fit φ sl cnt act (pn_len k v) → cnt = 6 → f_A_append (s, pw_lay (pw_σ b) μ) (some b) (lN (pn_rank k x)) value (nI v) = some (.inr "java/lang/UnsupportedOperationException", (none, pw_lay (pw_σ b) μ))) ∧
    (pk_fit φ sl cnt act (pn_len k v) ∨ cnt < 6 → ∃ μ', f_A_append (s, pw_lay (pw_σ b) μ) (some b) (lN (pn_rank k x)) value (nI v) = some (.inl (), (s, pw_lay (pw_σ b) μ')) ∧
      KR μ' b (pu (pk_tgt φ sl cnt act last (pn_len k v)).2.1 (pk_tgt φ sl cnt act last (pn_len k v)).1 (pt_app ((pk_tgt φ sl cnt act last (pn_len k v)).2.1 (pk_tgt φ sl cnt act last (pn_len k v)).1) time k x v value)) sl (pk_tgt φ sl cnt act last (pn_len k v)).2.2.1 true (pk_tgt φ sl cnt act last (pn_len k v)).2.2.2 ((time + 1) % 65536) cl (pe_en (pn_rank k x) ((pk_tgt φ sl cnt act last (pn_len k v)).1, ((pk_tgt φ sl cnt act last (pn_len k v)).2.1 (pk_tgt φ sl cnt act last (pn_len k v)).1).2.2.2.2.length) (decide (v = 255)) D) ou made taken af ar src ∧ pw_fr μ μ' (pw_inC b)) := by
  obtain ⟨b1, b2, b3, b4⟩ := h.bo
  obtain ⟨hA, hS, hE, hF, hG, hX⟩ := h
  obtain ⟨p1, p2, p3, p4, p5, p6, p7⟩ := hp
  have h6 := hS.2.2.2.2.2.1
  have hl9 := pn_len_ge k v
  have hcnt9 : ¬ cnt < 6 → sl.getD cnt 0 = 0 := fun hc => by
    unfold List.getD
    rw [List.getElem?_eq_none (by rw [ap.1]; omega)]
    rfl
  by_cases hc6 : cnt < 6
  · obtain ⟨r1, r2⟩ := kA_append (s := s) hA hS hE hF h1 h4 hx hvv value p1 p2 p3 (p4 _ (by omega)) p5 (fun f hf => by rw [← hf]; exact p6 hc6) (fun ha hl => p7 ha _ (by omega) hl)
    refine ⟨r1, fun hcase => ?_⟩
    obtain ⟨μ1, e1, a1, a2, a3, a4, a5⟩ := r2 hcase
    have hne : ∀ o, o < 6 → ou.getD o 0 ≠ sl.getD (cnt - 1) 0 ∧ ou.getD o 0 ≠ sl.getD cnt 0 := fun o ho => ⟨fun hc => ap.2.2.2.2 _ o (by omega) ho hc.symm, fun hc => ap.2.2.2.2 _ o hc6 ho hc.symm⟩
    have nG : ∀ a, a = b + 107 ∨ a = b + 108 → ¬ pw_inA b sl a := fun a ha hc => by
      rcases hc with hc | hc | hc | ⟨f, hf, hc⟩
      · omega
      · omega
      · unfold pw_inD at hc; omega
      · exact (b1 f hf).ne (by omega) hc
    refine ⟨μ1, e1, ⟨a1, a2, a3, a4, hG.fr a5 (nG _ (Or.inl rfl)) (nG _ (Or.inr rfl)), fun ht => ?_⟩, a5.mono (fun a ha => ?_)⟩
    · refine (hX ht).keep (hm ht) hF b3 a5 (fun o a ho ha hc => ?_) (fun o ho => ?_)
      · rcases hc with hc | hc | hc | ⟨f, hf, hc⟩
        · exact (b3 o ho).ne (by omega) ha
        · exact (b3 o ho).ne (by omega) ha
        · unfold pw_inD at hc
          exact (b3 o ho).ne (by omega) ha
        · exact pw_sl_ou ap b1 b3 hf ho ha hc
      · obtain ⟨n1, n2⟩ := hne o ho
        by_cases hfit : pk_fit φ sl cnt act (pn_len k v)
        · rw [pk_tgt_fit hfit]
          exact pu_ne n1
        · rw [pk_tgt_new hfit]
          dsimp only
          rw [pu_ne n2]
          unfold pu_new
          rw [pu_ne n2]
          exact pu_sync_ne n1
    · unfold pw_inC
      rcases ha with ha | ha | ha | ⟨f, hf, ha⟩
      · omega
      · omega
      · unfold pw_inD at ha; omega
      · have := (b1 f hf).at ha
        omega
  · have hc : cnt = 6 := by omega
    have hnb : ¬ isB b (sl.getD cnt 0) ∨ b = b := Or.inr rfl
    -- no file behind the sixth is ever begun
    have hfs : ∀ f, sl.getD cnt 0 = f → ¬ f ∈ fs := fun f hf hm => by
      have h0 := p2 f hm
      rw [hcnt9 hc6] at hf
      obtain ⟨i, hi, h0⟩ := h0
      omega
    obtain ⟨r1, r2⟩ := kA_append (s := s) hA hS hE hF h1 h4 hx hvv value p1 p2 p3 (p4 _ (by omega)) p5 hfs (fun ha hl => p7 ha _ (by omega) hl)
    refine ⟨r1, fun hcase => ?_⟩
    have hfit : pk_fit φ sl cnt act (pn_len k v) := hcase.elim id (fun h => absurd h hc6)
    obtain ⟨μ1, e1, a1, a2, a3, a4, a5⟩ := r2 hcase
    have nG : ∀ a, a = b + 107 ∨ a = b + 108 → ¬ pw_inA b sl a := fun a ha hc => by
      rcases hc with hc | hc | hc | ⟨f, hf, hc⟩
      · omega
      · omega
      · unfold pw_inD at hc; omega
      · exact (b1 f hf).ne (by omega) hc
    refine ⟨μ1, e1, ⟨a1, a2, a3, a4, hG.fr a5 (nG _ (Or.inl rfl)) (nG _ (Or.inr rfl)), fun ht => ?_⟩, a5.mono (fun a ha => ?_)⟩
    · refine (hX ht).keep (hm ht) hF b3 a5 (fun o a ho ha hc => ?_) (fun o ho => ?_)
      · rcases hc with hc | hc | hc | ⟨f, hf, hc⟩
        · exact (b3 o ho).ne (by omega) ha
        · exact (b3 o ho).ne (by omega) ha
        · unfold pw_inD at hc
          exact (b3 o ho).ne (by omega) ha
        · exact pw_sl_ou ap b1 b3 hf ho ha hc
      · rw [pk_tgt_fit hfit]
        exact pu_ne (fun hc => ap.2.2.2.2 _ o (by omega) ho hc.symm)
    · unfold pw_inC
      rcases ha with ha | ha | ha | ⟨f, hf, ha⟩
      · omega
      · omega
      · unfold pw_inD at ha; omega
      · have := (b1 f hf).at ha
        omega
end
