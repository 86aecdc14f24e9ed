/-! ===== the store's parts in the memories: face, shelf, merger, files ===== -/
/-- where files lie -/
def isB (b f : Nat) : Prop := ∃ i, i < 6 ∧ (f = b + 3 + 17 * i ∨ f = b + 109 + 17 * i)
theorem isB.ap {b f g : Nat} (hf : isB b f) (hg : isB b g) (h : f ≠ g) : pw_ap f g := by
  obtain ⟨i, hi, hf⟩ := hf
  obtain ⟨j, hj, hg⟩ := hg
  unfold pw_ap
  omega
theorem isB.at {b f a : Nat} (hf : isB b f) (h : pw_in f a) : (b + 3 ≤ a ∧ a < b + 105) ∨ (b + 109 ≤ a ∧ a < b + 211) := by
  obtain ⟨i, hi, hf⟩ := hf
  unfold pw_in at h
  omega
def kA (μ : pw_Mem) (b time : Nat) (cl : Bool) : Prop := μ.2.2 b 0 = some (b + 1) ∧ μ.2.2 b 1 = some (b + 105) ∧ μ.2.2 b 2 = some (b + 107) ∧ μ.1 b 3 = nI time ∧ μ.1 b 4 = if cl then 1 else 0
def kS (μ : pw_Mem) (b : Nat) (sl : List Nat) (cnt : Nat) (act : Bool) (last : Nat) : Prop := μ.2.2 (b + 1) 0 = some (b + 2) ∧ μ.1 (b + 1) 1 = nI cnt ∧ (μ.2.2 (b + 1) 2 = if act then sl[cnt - 1]? else none) ∧ μ.1 (b + 1) 3 = nI last ∧ sl.length = 6 ∧ cnt ≤ 6 ∧ (act = true → 0 < cnt) ∧ (∀ i, i < 6 → μ.2.2 (b + 2) i = sl[i]?) ∧ ∀ f ∈ sl, isB b f
def kG (μ : pw_Mem) (b : Nat) (ou : List Nat) (made taken af ar : Nat) : Prop := μ.2.2 (b + 107) 0 = some (b + 108) ∧ μ.1 (b + 107) 1 = nI made ∧ μ.1 (b + 107) 2 = nI taken ∧ μ.1 (b + 107) 3 = nI af ∧ μ.1 (b + 107) 4 = nI ar ∧ ou.length = 6 ∧ (∀ i, i < 6 → μ.2.2 (b + 108) i = ou[i]?) ∧ ∀ f ∈ ou, isB b f
def kF (μ : pw_Mem) (b : Nat) (φ : Nat → qf) : Prop := ∀ f, isB b f → qF (pw_σ b) μ f (φ f)
/-- a file is another -/
def pu (φ : Nat → qf) (f : Nat) (t : qf) : Nat → qf := fun g => if g = f then t else φ g
theorem pu_at {φ : Nat → qf} {f : Nat} {t : qf} : pu φ f t f = t := if_pos rfl
theorem pu_ne {φ : Nat → qf} {f g : Nat} {t : qf} (h : g ≠ f) : pu φ f t g = φ g := if_neg h
section
variable {μ μ' : pw_Mem} {s : Option Nat} {b time cnt last made taken af ar : Nat} {cl act : Bool} {sl ou : List Nat} {φ : Nat → qf} {P : Nat → Prop}
theorem kA.fr (h : kA μ b time cl) (g : pw_fr μ μ' P) (n : ¬ P b) : kA μ' b time cl := by
  obtain ⟨e1, e2, e3⟩ := g b n
  unfold kA at h ⊢
  rw [e1, e3]
  exact h
theorem kS.fr (h : kS μ b sl cnt act last) (g : pw_fr μ μ' P) (n : ¬ P (b + 1)) (n2 : ¬ P (b + 2)) : kS μ' b sl cnt act last := by
  obtain ⟨e1, e2, e3⟩ := g _ n
  obtain ⟨d1, d2, d3⟩ := g _ n2
  unfold kS at h ⊢
  rw [e1, e3, d3]
  exact h
theorem kG.fr (h : kG μ b ou made taken af ar) (g : pw_fr μ μ' P) (n : ¬ P (b + 107)) (n2 : ¬ P (b + 108)) : kG μ' b ou made taken af ar := by
  obtain ⟨e1, e2, e3⟩ := g _ n
  obtain ⟨d1, d2, d3⟩ := g _ n2
  unfold kG at h ⊢
  rw [e1, e3, d3]
  exact h
theorem kF.fr (h : kF μ b φ) (g : pw_fr μ μ' P) (n : ∀ a, (b + 3 ≤ a ∧ a < b + 105) ∨ (b + 109 ≤ a ∧ a < b + 211) → ¬ P a) : kF μ' b φ := fun f hf => (h f hf).fr g (fun a ha => n a (hf.at ha))
theorem kF.upd (h : kF μ b φ) {f : Nat} (hf : isB b f) {t : qf} (g : pw_fr μ μ' (pw_in f)) (q : qF (pw_σ b) μ' f t) : kF μ' b (pu φ f t) := fun k hk => by
  by_cases e : k = f
  · subst e
    rw [pu_at]
    exact q
  · rw [pu_ne e]
    exact (h k hk).off g (hk.ap hf e)
theorem kS_sh : pw_σ b (b + 1) = some (.inr 5) := pw_σ_at b 1
theorem kS_ar : pw_σ b (b + 2) = some (.inl (5, 6)) := pw_σ_at b 2
theorem kG_sh : pw_σ b (b + 107) = some (.inr 2) := pw_σ_at b 107
theorem kG_ar : pw_σ b (b + 108) = some (.inl (5, 6)) := pw_σ_at b 108
theorem kA_sh : pw_σ b b = some (.inr 0) := pw_σ_0 b
theorem kD_sh : pw_σ b (b + 105) = some (.inr 1) := pw_σ_at b 105
theorem kA_ob : aw_obj (s, pw_lay (pw_σ b) μ) (some b) 0 = some (b, pw_fs μ b 0) := by rw [pw_obj, pw_ob_of kA_sh]; rfl
theorem kS_ob : aw_obj (s, pw_lay (pw_σ b) μ) (some (b + 1)) 5 = some (b + 1, pw_fs μ (b + 1) 5) := by rw [pw_obj, pw_ob_of kS_sh]; rfl
theorem kG_ob : aw_obj (s, pw_lay (pw_σ b) μ) (some (b + 107)) 2 = some (b + 107, pw_fs μ (b + 107) 2) := by rw [pw_obj, pw_ob_of kG_sh]; rfl
theorem kD_ob : aw_obj (s, pw_lay (pw_σ b) μ) (some (b + 105)) 1 = some (b + 105, pw_fs μ (b + 105) 1) := by rw [pw_obj, pw_ob_of kD_sh]; rfl
theorem kA_g0 (h : kA μ b time cl) : aw_gR (s, pw_lay (pw_σ b) μ) (some b) 0 0 = some (some (b + 1)) := by rw [pg_A_0, pw_ob_of kA_sh]; exact congrArg some h.1
theorem kA_g1 (h : kA μ b time cl) : aw_gR (s, pw_lay (pw_σ b) μ) (some b) 0 1 = some (some (b + 105)) := by rw [pg_A_1, pw_ob_of kA_sh]; exact congrArg some h.2.1
theorem kA_g2 (h : kA μ b time cl) : aw_gR (s, pw_lay (pw_σ b) μ) (some b) 0 2 = some (some (b + 107)) := by rw [pg_A_2, pw_ob_of kA_sh]; exact congrArg some h.2.2.1
theorem kA_g3 (h : kA μ b time cl) : aw_gI (s, pw_lay (pw_σ b) μ) (some b) 0 3 = some (nI time) := by rw [pg_A_3, pw_ob_of kA_sh]; exact congrArg some h.2.2.2.1
theorem kA_g4 (h : kA μ b time cl) : aw_gI (s, pw_lay (pw_σ b) μ) (some b) 0 4 = some (if cl then 1 else 0) := by rw [pg_A_4, pw_ob_of kA_sh]; exact congrArg some h.2.2.2.2
theorem kA_p3 (h : kA μ b time cl) (n : Nat) : ∃ μ', aw_pV (s, pw_lay (pw_σ b) μ) (some b) 0 3 (.int (nI n)) = some (s, pw_lay (pw_σ b) μ') ∧ kA μ' b n cl ∧ pw_fr μ μ' (fun a => a = b) := by
  refine ⟨pw_sI μ b 3 (nI n), by rw [pp_A_3, pw_ob_of kA_sh]; rfl, ?_, pw_fr.sI rfl⟩
  obtain ⟨h1, h2, h3, h4, h5⟩ := h
  exact ⟨h1, h2, h3, by rw [pw_sI_I, if_pos ⟨rfl, rfl⟩], by rw [pw_sI_I, if_neg (by omega)]; exact h5⟩
theorem kA_p4 (h : kA μ b time cl) (c : Bool) : ∃ μ', aw_pV (s, pw_lay (pw_σ b) μ) (some b) 0 4 (.int (if c then 1 else 0)) = some (s, pw_lay (pw_σ b) μ') ∧ kA μ' b time c ∧ pw_fr μ μ' (fun a => a = b) := by
  refine ⟨pw_sI μ b 4 (if c then 1 else 0), by rw [pp_A_4, pw_ob_of kA_sh]; rfl, ?_, pw_fr.sI rfl⟩
  obtain ⟨h1, h2, h3, h4, h5⟩ := h
  exact ⟨h1, h2, h3, by rw [pw_sI_I, if_neg (by omega)]; exact h4, by rw [pw_sI_I, if_pos ⟨rfl, rfl⟩]⟩
theorem kS_g0 (h : kS μ b sl cnt act last) : aw_gR (s, pw_lay (pw_σ b) μ) (some (b + 1)) 5 0 = some (some (b + 2)) := by rw [pg_S_0, pw_ob_of kS_sh]; exact congrArg some h.1
theorem kS_g1 (h : kS μ b sl cnt act last) : aw_gI (s, pw_lay (pw_σ b) μ) (some (b + 1)) 5 1 = some (nI cnt) := by rw [pg_S_1, pw_ob_of kS_sh]; exact congrArg some h.2.1
theorem kS_g2 (h : kS μ b sl cnt act last) : aw_gR (s, pw_lay (pw_σ b) μ) (some (b + 1)) 5 2 = some (if act then sl[cnt - 1]? else none) := by rw [pg_S_2, pw_ob_of kS_sh]; exact congrArg some h.2.2.1
theorem kS_g3 (h : kS μ b sl cnt act last) : aw_gI (s, pw_lay (pw_σ b) μ) (some (b + 1)) 5 3 = some (nI last) := by rw [pg_S_3, pw_ob_of kS_sh]; exact congrArg some h.2.2.2.1
theorem kS_len : aw_len (s, pw_lay (pw_σ b) μ) (some (b + 2)) 5 = some (nI 6) := by rw [pw_len, pw_aa_of kS_ar]; rfl
theorem kS_row (h : kS μ b sl cnt act last) {i : Nat} (hi : i < 6) : aw_aR (s, pw_lay (pw_σ b) μ) (some (b + 2)) 5 (nI i) = some sl[i]? := by
  rw [pw_aR_5, pw_aa_of kS_ar]
  simp only [Option.bind_some]
  rw [aw_ix_nI hi (by decide)]
  exact congrArg some (h.2.2.2.2.2.2.2.1 i hi)
theorem kS_at (h : kS μ b sl cnt act last) {i : Nat} (hi : i < 2 ^ 31) : f_S_at (s, pw_lay (pw_σ b) μ) (some (b + 1)) (nI i) = some (if i < cnt then sl[i]? else none) := by
  have h6 := h.2.2.2.2.2.1
  unfold f_S_at
  rw [if_neg (nI_pos hi), kS_g1 h, Option.bind_some]
  by_cases c : i < cnt
  · rw [if_neg (nI_ge c (by omega)), kS_g0 h, Option.bind_some, kS_row h (by omega), if_pos c]
    rfl
  · rw [if_pos (nI_le (by omega) hi), if_neg c]
    rfl
theorem kS_atneg {i : Int32} (hi : i < 0) : f_S_at (s, pw_lay (pw_σ b) μ) (some (b + 1)) i = some none := by
  unfold f_S_at
  rw [if_pos hi]
  rfl
theorem kS_count (h : kS μ b sl cnt act last) : f_S_count (s, pw_lay (pw_σ b) μ) (some (b + 1)) = some (nI cnt) := by
  unfold f_S_count
  rw [kS_g1 h]
  rfl
/-- the active file -/
theorem kS_act (h : kS μ b sl cnt true last) : ∃ f, sl[cnt - 1]? = some f ∧ isB b f ∧ f ∈ sl := by
  have h5 := h.2.2.2.2.1
  have h6 := h.2.2.2.2.2.1
  have h7 := h.2.2.2.2.2.2.1 rfl
  exact ⟨sl[cnt - 1], List.getElem?_eq_getElem (by omega), h.2.2.2.2.2.2.2.2 _ (List.getElem_mem _), List.getElem_mem _⟩
theorem kS_sealed (h : kS μ b sl cnt act last) : f_S_sealedCount (s, pw_lay (pw_σ b) μ) (some (b + 1)) = some (nI (if act then cnt - 1 else cnt)) := by
  unfold f_S_sealedCount
  rw [kS_g2 h, Option.bind_some]
  cases act with
  | false =>
    simp only [Bool.false_eq_true, if_false, if_true, kS_g1 h, Option.bind_some]
  | true =>
    obtain ⟨f, hf, -⟩ := kS_act h
    have h7 := h.2.2.2.2.2.2.1 rfl
    obtain ⟨n, rfl⟩ : ∃ n, cnt = n + 1 := ⟨cnt - 1, by omega⟩
    simp only [if_true, hf, kS_g1 h, Option.bind_some]
    rw [if_neg (fun hc => nomatch hc), Option.bind_some, nI_pred]
    rfl
/-- what a file is when it is synced -/
def pt_sync (t : qf) : qf := (t.1, t.2.1, t.2.1.length, t.2.2.2)
/-- the files when the active one is synced -/
def pu_sync (φ : Nat → qf) (sl : List Nat) (cnt : Nat) (act : Bool) : Nat → qf := if act then pu φ (sl.getD (cnt - 1) 0) (pt_sync (φ (sl.getD (cnt - 1) 0))) else φ
theorem kS_sync (h : kS μ b sl cnt act last) (hF : kF μ b φ) : ∃ μ', f_S_syncActive (s, pw_lay (pw_σ b) μ) (some (b + 1)) = some (s, pw_lay (pw_σ b) μ') ∧ kS μ' b sl cnt act last ∧ kF μ' b (pu_sync φ sl cnt act) ∧ pw_fr μ μ' (fun a => ∃ f, f ∈ sl ∧ a = f) := by
  unfold f_S_syncActive pu_sync
  rw [kS_g2 h, Option.bind_some]
  cases act with
  | false =>
    simp only [Bool.false_eq_true, if_false, if_true]
    exact ⟨μ, rfl, h, hF, pw_fr.rfl⟩
  | true =>
    obtain ⟨f, hf, hb, hm9⟩ := kS_act h
    obtain ⟨μ1, e, q, g⟩ := qF_sync (s := s) (hF f hb)
    have hgd : sl.getD (cnt - 1) 0 = f := by unfold List.getD; rw [hf]; rfl
    simp only [if_true, hf, hgd]
    rw [if_neg (fun hc => nomatch hc), Option.bind_some, qF_ob (hF f hb), Option.bind_some, e]
    have g2 : pw_fr μ μ1 (pw_in f) := g.mono (fun a ha => ⟨by omega, by omega⟩)
    refine ⟨μ1, rfl, h.fr g2 (fun hc => ?_) (fun hc => ?_), hF.upd hb g2 q, g.mono (fun a ha => ⟨f, hm9, ha⟩)⟩
    · have := hb.at hc; omega
    · have := hb.at hc; omega
theorem kS_p2 (h : kS μ b sl cnt act last) (a : Bool) (ha : a = true → 0 < cnt) : ∃ μ', aw_pV (s, pw_lay (pw_σ b) μ) (some (b + 1)) 5 2 (va_rf (if a then sl[cnt - 1]? else none)) = some (s, pw_lay (pw_σ b) μ') ∧ kS μ' b sl cnt a last ∧ pw_fr μ μ' (fun a => a = b + 1) := by
  refine ⟨pw_sR μ (b + 1) 2 (if a then sl[cnt - 1]? else none), by rw [pp_S_2, pw_ob_of kS_sh]; rfl, ?_, pw_fr.sR rfl⟩
  obtain ⟨h1, h2, h3, h4, h5, h6, h7, h8, h9⟩ := h
  refine ⟨?_, h2, ?_, h4, h5, h6, ha, fun i hi => ?_, h9⟩
  · show (if b + 1 = b + 1 ∧ 0 = 2 then _ else μ.2.2 (b + 1) 0) = _
    rw [if_neg (by omega)]; exact h1
  · show (if b + 1 = b + 1 ∧ 2 = 2 then _ else μ.2.2 (b + 1) 2) = _
    rw [if_pos ⟨rfl, rfl⟩]
  · rw [pw_sR_off (by omega)]; exact h8 i hi
theorem kS_seal (h : kS μ b sl cnt act last) (hF : kF μ b φ) : ∃ μ', f_S_sealActive (s, pw_lay (pw_σ b) μ) (some (b + 1)) = some (s, pw_lay (pw_σ b) μ') ∧ kS μ' b sl cnt false last ∧ kF μ' b (pu_sync φ sl cnt act) ∧ pw_fr μ μ' (fun a => a = b + 1 ∨ ∃ f, f ∈ sl ∧ a = f) := by
  obtain ⟨μ1, e1, s1, f1, g1⟩ := kS_sync (s := s) h hF
  obtain ⟨μ2, e2, s2, g2⟩ := kS_p2 (s := s) s1 false (fun h => nomatch h)
  unfold f_S_sealActive
  rw [kS_ob, Option.bind_some, e1, Option.bind_some]
  rw [if_neg (by decide)] at e2
  rw [e2]
  exact ⟨μ2, rfl, s2, f1.fr g2 (fun a ha hc => by omega), (g1.mono (fun a ha => Or.inr ha)).trans (g2.mono (fun a ha => Or.inl ha))⟩
def pt_lose (t : qf) (m : Nat) : qf := (t.1, t.2.1.take (t.2.2.1 + m), (t.2.1.take (t.2.2.1 + m)).length, t.2.2.2)
def pu_lose (φ : Nat → qf) (sl : List Nat) (cnt : Nat) (act : Bool) (m : Nat) : Nat → qf := if act then pu φ (sl.getD (cnt - 1) 0) (pt_lose (φ (sl.getD (cnt - 1) 0)) m) else φ
theorem kS_lose (h : kS μ b sl cnt act last) (hF : kF μ b φ) {m : Nat} (hm : ∀ f, isB b f → (φ f).2.2.1 + m < 2 ^ 31) : ∃ μ', f_S_losePower (s, pw_lay (pw_σ b) μ) (some (b + 1)) (nI m) = some (s, pw_lay (pw_σ b) μ') ∧ kS μ' b sl cnt false last ∧ kF μ' b (pu_lose φ sl cnt act m) ∧ pw_fr μ μ' (fun a => a = b + 1 ∨ ∃ f, f ∈ sl ∧ pw_in f a) := by
  have key : ∃ μ1, ((if (if act then sl[cnt - 1]? else none) = none then some (s, pw_lay (pw_σ b) μ) else (aw_gR (s, pw_lay (pw_σ b) μ) (some (b + 1)) 5 2).bind fun v2 => (aw_obj (s, pw_lay (pw_σ b) μ) v2 6).bind fun _ => (f_F_losePower (s, pw_lay (pw_σ b) μ) v2 (nI m)).bind fun v4 => some v4 : Option aw_W)) = some (s, pw_lay (pw_σ b) μ1) ∧ kS μ1 b sl cnt act last ∧ kF μ1 b (pu_lose φ sl cnt act m) ∧ pw_fr μ μ1 (fun a => ∃ f, f ∈ sl ∧ pw_in f a) := by
    unfold pu_lose
    cases act with
    | false => exact ⟨μ, by simp only [Bool.false_eq_true, if_false, if_true], h, hF, pw_fr.rfl⟩
    | true =>
      obtain ⟨f, hf, hb, hm9⟩ := kS_act h
      obtain ⟨μ1, e, q, g⟩ := qF_lose (s := s) (hF f hb) (hm f hb)
      have hgd : sl.getD (cnt - 1) 0 = f := by unfold List.getD; rw [hf]; rfl
      rw [kS_g2 h]
      simp only [if_true, hf, hgd, Option.bind_some]
      rw [if_neg (fun hc => nomatch hc), qF_ob (hF f hb), Option.bind_some, e]
      refine ⟨μ1, rfl, h.fr g (fun hc => ?_) (fun hc => ?_), hF.upd hb g q, g.mono (fun a ha => ⟨f, hm9, ha⟩)⟩
      · have := hb.at hc; omega
      · have := hb.at hc; omega
  obtain ⟨μ1, e1, s1, f1, g1⟩ := key
  obtain ⟨μ2, e2, s2, g2⟩ := kS_p2 (s := s) s1 false (fun h => nomatch h)
  unfold f_S_losePower
  rw [kS_g2 h] at e1 ⊢
  rw [Option.bind_some]
  rw [e1, Option.bind_some]
  rw [if_neg (by decide)] at e2
  rw [e2]
  exact ⟨μ2, rfl, s2, f1.fr g2 (fun a ha hc => by omega), (g1.mono (fun a ha => Or.inr ha)).trans (g2.mono (fun a ha => Or.inl ha))⟩
end
