/-! ===== the reference publishes ===== -/
section
variable {I I' : mN} {L L' : mL} {ρ : mQ} {s : Option Nat} {b n : Nat} {E : qE} {sl : List Nat} {cnt : Nat} {D : List (Nat × Nat × Nat)} {ou : List Nat} {taken : Nat} {M : qM}
theorem Dx_in (hI : mI b sl ou D taken M) (hin : ∀ o, o < 6 → ou.getD o 0 ∈ sl ++ ou) (h6 : M.2.1 ≤ 6) (ok : dOK M.1 (sl ++ ou) D) (hs : dS D) (hDs : ∀ e ∈ D, ∃ i, i < cnt ∧ e.2.1 = sl.getD i 0) : ∀ o, o ≤ M.2.1 → ∀ e ∈ Dx M.1 ou M.2.2.2.2 D o, (∃ i, i < cnt ∧ e.2.1 = sl.getD i 0) ∨ ∃ o, o < M.2.1 ∧ e.2.1 = ou.getD o 0 := by
  have Dok := Dx_ok hI hin h6 ok hs
  have inX : ∀ o, o ≤ M.2.1 → ∀ j, (∀ e ∈ Dx M.1 ou M.2.2.2.2 D o, (∃ i, i < cnt ∧ e.2.1 = sl.getD i 0) ∨ ∃ o, o < M.2.1 ∧ e.2.1 = ou.getD o 0) → o < M.2.1 → j ≤ (M.1 (ou.getD o 0)).2.2.2.2.length → ∀ e ∈ pd_out (pn_rk (M.1 (ou.getD o 0))) (M.2.2.2.2 o) (ou.getD o 0) j (Dx M.1 ou M.2.2.2.2 D o), (∃ i, i < cnt ∧ e.2.1 = sl.getD i 0) ∨ ∃ o, o < M.2.1 ∧ e.2.1 = ou.getD o 0 := by
    intro o ho j
    induction j with
    | zero => intro hX _ _ e he; exact hX e he
    | succ j ih =>
      intro hX ho' hj e he
      rw [pd_out] at he
      unfold pd_rep at he
      split at he
      · have hsj := (pd_out_ok hI ho' (hin o (by omega)) (Dok o ho).1 (Dok o ho).2 j (by omega)).2
        rcases (pe_en_mem hsj).mp he with ⟨h1, -⟩ | ⟨-, rfl⟩
        · exact ih hX ho' (by omega) e h1
        · exact Or.inr ⟨o, ho', rfl⟩
      · exact ih hX ho' (by omega) e he
  intro o
  induction o with
  | zero => intro _ e he; exact Or.inl (hDs e he)
  | succ o ih => intro ho e he; exact inX o (by omega) _ (ih (by omega)) (by omega) (Nat.le_refl _) e he
/-- what publishing touches in the reference -/
def mCp (b a k : Nat) : Prop := (a = b + 211 ∧ (k = 1 ∨ k = 24)) ∨ a = b + 227 ∨ a = b + 228 ∨ ∃ i, i < 12 ∧ mC b i a k
theorem M_publish (hP : mP b ρ) (h : mrM I b sl ou cnt taken M) (hc1 : I (b + 211) 1 = nI cnt) (hd : mDir I L b n E) (hr : dR (fun f => (M.1 f).1) n E D) (hs : dS D) (ok : dOK M.1 (sl ++ ou) D) (hI : mI b sl ou D taken M) (ap : pk_ap sl ou) (hbo : ∀ o, o < 6 → isB b (ou.getD o 0)) (h6 : cnt ≤ 6) (ht : taken ≤ cnt) (hz : ∀ i, i < 6 → mZ (M.1 (sl.getD i 0)) ∧ mZ (M.1 (ou.getD i 0))) (hnum : pk_nums M.1 sl cnt) (hn5 : ∀ i, i < cnt → (M.1 (sl.getD i 0)).1 < 100000) (hin : ∀ o, o < 6 → ou.getD o 0 ∈ sl ++ ou) (hsl : ∀ f ∈ sl ++ ou, (∃ i, i < 6 ∧ f = sl.getD i 0) ∨ ∃ o, o < 6 ∧ f = ou.getD o 0) (hDs : ∀ e ∈ D, ∃ i, i < cnt ∧ e.2.1 = sl.getD i 0) :
    ∃ I', f_M_publish (s, pw_lay (pw_σ b) (I, L, ρ)) (some (b + 211)) = some (s, pw_lay (pw_σ b) (I', L, ρ)) ∧ (∃ E', mDir I' L b n E' ∧ dR (fun f => (φx M.1 sl ou M.2.1 f).1) n E' (Dx M.1 ou M.2.2.2.2 D M.2.1)) ∧ (∀ o, o < M.2.1 → mRw I' b o (φx M.1 sl ou M.2.1 (ou.getD o 0))) ∧ (∀ j, M.2.1 ≤ j → j < cnt - (taken - M.2.1) → mRw I' b j (φx M.1 sl ou M.2.1 (sl.getD (j + (taken - M.2.1)) 0))) ∧ I' (b + 211) 1 = nI (cnt - (taken - M.2.1)) ∧ I' (b + 211) 24 = 0 ∧ mfr I I' (mCp b) := by
  have hmt : M.2.1 ≤ taken := hI.2.2.2.2.1
  have hm6 : M.2.1 ≤ 6 := by omega
  obtain ⟨fx1, fx2⟩ := φx_at (φ := M.1) ap M.2.1 hm6
  have hnsl : ∀ i, i < 6 → nmx M.1 sl ou M.2.1 (sl.getD i 0) = (M.1 (sl.getD i 0)).1 := fun i hi => nmx_sl M.2.1 (fun o ho => ap.2.2.2.2 i o hi (by omega))
  have hfsl : ∀ i, i < 6 → φx M.1 sl ou M.2.1 (sl.getD i 0) = M.1 (sl.getD i 0) := fun i hi => fx1 _ (fun o ho => ap.2.2.2.2 i o hi (by omega))
  have hr0 : dR (nmx M.1 sl ou M.2.1) n E D := hr.renm (fun e he => by
    obtain ⟨i, hi, e1⟩ := hDs e he
    rw [e1]
    exact hnsl i (by omega))
  unfold f_M_publish
  refine M_pub1 (G := fun x => ∃ I', x = some (s, pw_lay (pw_σ b) (I', L, ρ)) ∧ (∃ E', mDir I' L b n E' ∧ dR (fun f => (φx M.1 sl ou M.2.1 f).1) n E' (Dx M.1 ou M.2.2.2.2 D M.2.1)) ∧ (∀ o, o < M.2.1 → mRw I' b o (φx M.1 sl ou M.2.1 (ou.getD o 0))) ∧ (∀ j, M.2.1 ≤ j → j < cnt - (taken - M.2.1) → mRw I' b j (φx M.1 sl ou M.2.1 (sl.getD (j + (taken - M.2.1)) 0))) ∧ I' (b + 211) 1 = nI (cnt - (taken - M.2.1)) ∧ I' (b + 211) 24 = 0 ∧ mfr I I' (mCp b)) hP h ⟨E, hd, hr0⟩ hs ok hI ap h6 ht hz hnum hn5 hsl hin hDs (fun I1 i1 h1 hE1 g1 => ?_)
  obtain ⟨E1, d1, r1⟩ := hE1
  dsimp only
  refine M_pub2 (G := fun x => ∃ I', x = some (s, pw_lay (pw_σ b) (I', L, ρ)) ∧ (∃ E', mDir I' L b n E' ∧ dR (fun f => (φx M.1 sl ou M.2.1 f).1) n E' (Dx M.1 ou M.2.2.2.2 D M.2.1)) ∧ (∀ o, o < M.2.1 → mRw I' b o (φx M.1 sl ou M.2.1 (ou.getD o 0))) ∧ (∀ j, M.2.1 ≤ j → j < cnt - (taken - M.2.1) → mRw I' b j (φx M.1 sl ou M.2.1 (sl.getD (j + (taken - M.2.1)) 0))) ∧ I' (b + 211) 1 = nI (cnt - (taken - M.2.1)) ∧ I' (b + 211) 24 = 0 ∧ mfr I I' (mCp b)) hP (N := 100000) (N32 := 100000) rfl (by decide) d1 (fun I2 i2 d2 g2 => ?_)
  have r2 : dR (fun f => (φx M.1 sl ou M.2.1 f).1) n (ude 100000 E1) (Dx M.1 ou M.2.2.2.2 D M.2.1) := ude_dR r1 (fun e he => by
    rcases Dx_in hI hin hm6 ok hs hDs M.2.1 (Nat.le_refl _) e he with ⟨i, hi, e1⟩ | ⟨o, ho, e1⟩
    · rw [e1, hfsl i (by omega), hnsl i (by omega), if_pos (hn5 i hi)]
    · rw [e1, fx2 o ho, nmx_ou ap M.2.1 hm6 o ho, if_neg (by omega), Nat.add_sub_cancel_left]
      rfl)
  have h2 : mrM I2 b sl ou cnt taken M := by
    obtain ⟨q1, q2, q3, q4, q5, q6⟩ := h1
    have e : ∀ a k, a ≠ b + 227 → I2 a k = I1 a k := fun a k x => g2 _ _ x
    have kw : ∀ {i : Nat} {t : qf}, mZ t → mW I1 b i t → mW I2 b i t := fun {i} {t} hzt hw => hw.fr hzt g2 (fun a k hk hc => by unfold mC at hk; omega)
    refine ⟨fun i hi => ⟨by rw [e _ _ (by omega)]; exact (q1 i hi).1, kw (hz i (by omega)).1 (q1 i hi).2⟩, by rw [e _ _ (by omega)]; exact q2, by rw [e _ _ (by omega)]; exact q3, by rw [e _ _ (by omega)]; exact q4, by rw [e _ _ (by omega)]; exact q5, fun o ho => ⟨kw (hz o (by omega)).2 (q6 o ho).1, fun j hj => by rw [e _ _ (by omega), e _ _ (by omega)]; exact (q6 o ho).2 j hj⟩⟩
  dsimp only
  refine M_pub3 (G := fun x => ∃ I', x = some (s, pw_lay (pw_σ b) (I', L, ρ)) ∧ (∃ E', mDir I' L b n E' ∧ dR (fun f => (φx M.1 sl ou M.2.1 f).1) n E' (Dx M.1 ou M.2.2.2.2 D M.2.1)) ∧ (∀ o, o < M.2.1 → mRw I' b o (φx M.1 sl ou M.2.1 (ou.getD o 0))) ∧ (∀ j, M.2.1 ≤ j → j < cnt - (taken - M.2.1) → mRw I' b j (φx M.1 sl ou M.2.1 (sl.getD (j + (taken - M.2.1)) 0))) ∧ I' (b + 211) 1 = nI (cnt - (taken - M.2.1)) ∧ I' (b + 211) 24 = 0 ∧ mfr I I' (mCp b)) hP h2 hI hbo h6 ht hz (fun I3 i3 k1 k2 g3 => ?_)
  have f3 : ∀ k, I3 (b + 211) k = I2 (b + 211) k := fun k => g3 _ _ (fun hc => by obtain ⟨i, -, hc⟩ := hc; unfold mC at hc; omega)
  have hc3 : I3 (b + 211) 1 = nI cnt := by rw [f3, g2 _ _ (by omega), g1 _ _ (by omega)]; exact hc1
  dsimp only
  rw [mf_25, Option.bind_some, f3, h2.2.1, mf_28, Option.bind_some, f3, h2.2.2.2.2.1, Option.bind_some]
  have hV := hI.1
  refine M_pub4 (ψ := fun o => pt_pub (M.1 (ou.getD o 0)) (M.1 (sl.getD o 0)).1) (φ := M.1) (sl := sl) (cnt := cnt) (taken := taken) (made := M.2.1) (G := fun x => ∃ I', x = some (s, pw_lay (pw_σ b) (I', L, ρ)) ∧ (∃ E', mDir I' L b n E' ∧ dR (fun f => (φx M.1 sl ou M.2.1 f).1) n E' (Dx M.1 ou M.2.2.2.2 D M.2.1)) ∧ (∀ o, o < M.2.1 → mRw I' b o (φx M.1 sl ou M.2.1 (ou.getD o 0))) ∧ (∀ j, M.2.1 ≤ j → j < cnt - (taken - M.2.1) → mRw I' b j (φx M.1 sl ou M.2.1 (sl.getD (j + (taken - M.2.1)) 0))) ∧ I' (b + 211) 1 = nI (cnt - (taken - M.2.1)) ∧ I' (b + 211) 24 = 0 ∧ mfr I I' (mCp b)) hP hmt h6 ht hc3 (fun i hi => (hz i hi).1) (fun o ho => pt_pub_Z (hV _ (hbo o (by omega))).1 (hz o (by omega)).2 (hI.2.2.1 o ho).1) k1 k2 (fun I4 i4 p1 p2 g4 => ?_)
  have f4 : ∀ k, I4 (b + 211) k = I3 (b + 211) k := fun k => g4 _ _ (fun hc => by obtain ⟨i, -, hc⟩ := hc; unfold mC at hc; omega)
  dsimp only
  rw [mf_1, Option.bind_some, f4, hc3, nI_sub hmt, nI_sub (by omega), mw_1, Option.bind_some, mw_24, Option.bind_some]
  have wf : ∀ {i : Nat} {t : qf} (x y : Int32), mRw I4 b i t → mRw (uI (uI I4 (b + 211) 1 x) (b + 211) 24 y) b i t := fun x y hw => ⟨by rw [uI_ne (by omega), uI_ne (by omega)]; exact hw.1, (hw.2.fld _ _).fld _ _⟩
  refine ⟨_, rfl, ⟨_, ((((d2.fr g3 (fun a k ha hc => ?_)).fr g4 (fun a k ha hc => ?_)).fld (by decide) _).fld (by decide) _), r2⟩, fun o ho => wf _ _ ?_, fun j h1 h2 => wf _ _ ?_, ?_, uI_at, ?_⟩
  · obtain ⟨i, -, hc⟩ := hc
    unfold mC at hc
    omega
  · obtain ⟨i, -, hc⟩ := hc
    unfold mC at hc
    omega
  · rw [fx2 o ho]
    exact p1 o ho
  · rw [hfsl _ (by omega)]
    exact p2 j h1 h2
  · rw [uI_ne (by omega), uI_at]
  · refine ((((g1.mono (fun a k hk => ?_)).trans (g2.mono (fun a k hk => Or.inr (Or.inl hk)))).trans (g3.mono (fun a k hk => Or.inr (Or.inr (Or.inr hk))))).trans (g4.mono (fun a k hk => Or.inr (Or.inr (Or.inr hk))))).trans ((mfr.uI (Or.inl ⟨rfl, Or.inl rfl⟩)).trans (mfr.uI (Or.inl ⟨rfl, Or.inr rfl⟩)))
    exact Or.inr (hk.imp id Or.inl)
end
