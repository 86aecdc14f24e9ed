/-! ===== the reference's directory ===== -/
abbrev qE : Type := Nat → Nat × Nat × Nat × Nat
def mDir (I : mN) (L : mL) (b n : Nat) (E : qE) : Prop := I (b + 211) 15 = nI n ∧ n ≤ 66 ∧ ∀ j, j < n → L (b + 225) j = lN (E j).1 ∧ I (b + 226) j = nI (E j).2.1 ∧ I (b + 227) j = nI (E j).2.2.1 ∧ I (b + 228) j = nI (E j).2.2.2 ∧ (E j).1 < 2 ^ 32 ∧ (E j).2.1 < 8 ∧ (E j).2.2.1 < 2 ^ 20 ∧ (E j).2.2.2 < 2 ^ 20
/-- no key stands twice -/
def mInj (n : Nat) (E : qE) : Prop := ∀ i j, i < n → j < n → (E i).1 = (E j).1 → (E i).2.1 = (E j).2.1 → i = j
theorem mDir.fr {I I' : mN} {L : mL} {b n : Nat} {E : qE} {Q : Nat → Nat → Prop} (h : mDir I L b n E) (g : mfr I I' Q) (hQ : ∀ a k, (a = b + 211 ∧ k = 15) ∨ a = b + 226 ∨ a = b + 227 ∨ a = b + 228 → ¬ Q a k) : mDir I' L b n E := by
  obtain ⟨h1, h2, h3⟩ := h
  refine ⟨by rw [g _ _ (hQ _ _ (by omega))]; exact h1, h2, fun j hj => ?_⟩
  rw [g _ _ (hQ (b + 226) j (by omega)), g _ _ (hQ (b + 227) j (by omega)), g _ _ (hQ (b + 228) j (by omega))]
  exact h3 j hj
section
variable {I I' : mN} {L : mL} {ρ : mQ} {s : Option Nat} {b n : Nat} {E : qE}
theorem M_find_no (hP : mP b ρ) (h : mDir I L b n E) {x k : Nat} (hx : x < 2 ^ 32) (hk : k < 8) (hno : ∀ j, j < n → ¬ ((E j).1 = x ∧ (E j).2.1 = k)) : f_M_find (s, pw_lay (pw_σ b) (I, L, ρ)) (some (b + 211)) (lN x) (nI k) = some (-1) := by
  obtain ⟨h1, h2, h3⟩ := h
  unfold f_M_find
  refine (pw_loop (.inl (nI n)) n (fun j => nI j) rfl (fun j hj => ?_) ?_).trans rfl
  · obtain ⟨q1, q2, q3, q4, q5, q6, q7, q8⟩ := h3 j hj
    try dsimp only
    rw [mf_15, Option.bind_some, h1, if_neg (nI_ge hj (by omega)), mg_16 hP, Option.bind_some, ma_225 (by omega), Option.bind_some, q1]
    by_cases c1 : (E j).1 = x
    · rw [if_pos ((lg_cmp_eq _ _).mpr (by rw [c1])), mg_17 hP, Option.bind_some, ma_226 (by omega), Option.bind_some, q2, if_neg (fun hc => hno j hj ⟨c1, (nI_eq (by omega) (by omega)).mp hc⟩), nI_1]
    · rw [if_neg (fun hc => c1 ((lN_eq63 (by omega) (by omega)).mp ((lg_cmp_eq _ _).mp hc))), nI_1]
  · try dsimp only
    rw [mf_15, Option.bind_some, h1, if_pos (nI_le (Nat.le_refl _) (by omega))]
theorem M_find_at (hP : mP b ρ) (h : mDir I L b n E) (hinj : mInj n E) {x k j : Nat} (hj : j < n) (e1 : (E j).1 = x) (e2 : (E j).2.1 = k) : f_M_find (s, pw_lay (pw_σ b) (I, L, ρ)) (some (b + 211)) (lN x) (nI k) = some (nI j) := by
  obtain ⟨h1, h2, h3⟩ := h
  obtain ⟨r1, r2, r3, r4, r5, r6, r7, r8⟩ := h3 j hj
  unfold f_M_find
  refine (pw_loop (.inr (nI j)) j (fun i => nI i) rfl (fun i hi => ?_) ?_).trans rfl
  · obtain ⟨q1, q2, q3, q4, q5, q6, q7, q8⟩ := h3 i (by omega)
    try dsimp only
    rw [mf_15, Option.bind_some, h1, if_neg (nI_ge (by omega) (by omega)), mg_16 hP, Option.bind_some, ma_225 (by omega), Option.bind_some, q1]
    by_cases c1 : (E i).1 = x
    · rw [if_pos ((lg_cmp_eq _ _).mpr (by rw [c1])), mg_17 hP, Option.bind_some, ma_226 (by omega), Option.bind_some, q2, if_neg (fun hc => by
        have := hinj i j (by omega) hj (c1.trans e1.symm) (((nI_eq (by omega) (by omega)).mp hc).trans e2.symm)
        omega), nI_1]
    · rw [if_neg (fun hc => c1 ((lN_eq63 (by omega) (by omega)).mp ((lg_cmp_eq _ _).mp hc))), nI_1]
  · try dsimp only
    rw [mf_15, Option.bind_some, h1, if_neg (nI_ge hj (by omega)), mg_16 hP, Option.bind_some, ma_225 (by omega), Option.bind_some, r1, if_pos ((lg_cmp_eq _ _).mpr (by rw [e1])), mg_17 hP, Option.bind_some, ma_226 (by omega), Option.bind_some, r2, if_pos (by rw [e2])]
/-- an entry is another -/
def eu (E : qE) (j : Nat) (q : Nat × Nat × Nat × Nat) : qE := fun i => if i = j then q else E i
theorem eu_at {E : qE} {j : Nat} {q : Nat × Nat × Nat × Nat} : eu E j q j = q := if_pos rfl
theorem eu_ne {E : qE} {i j : Nat} {q : Nat × Nat × Nat × Nat} (h : i ≠ j) : eu E j q i = E i := if_neg h
/-- what a change of the directory touches -/
def mCd (b a k : Nat) : Prop := (a = b + 211 ∧ k = 15) ∨ a = b + 226 ∨ a = b + 227 ∨ a = b + 228
theorem nI_neg1 {n : Nat} (h : n < 2 ^ 31) : 0 ≤ nI n := nI_pos' h
theorem M_set_at (hP : mP b ρ) (h : mDir I L b n E) (hinj : mInj n E) {x k j fn ri : Nat} (hj : j < n) (e1 : (E j).1 = x) (e2 : (E j).2.1 = k) (hfn : fn < 2 ^ 20) (hri : ri < 2 ^ 20) : ∃ I', f_M_set (s, pw_lay (pw_σ b) (I, L, ρ)) (some (b + 211)) (lN x) (nI k) (nI fn) (nI ri) = some (s, pw_lay (pw_σ b) (I', L, ρ)) ∧ mDir I' L b n (eu E j (x, k, fn, ri)) ∧ mfr I I' (mCd b) := by
  have hf := M_find_at (s := s) hP h hinj hj e1 e2
  obtain ⟨h1, h2, h3⟩ := h
  refine ⟨uI (uI I (b + 227) j (nI fn)) (b + 228) j (nI ri), ?_, ⟨?_, h2, fun i hi => ?_⟩, (mfr.uI (Or.inr (Or.inr (Or.inl rfl)))).trans (mfr.uI (Or.inr (Or.inr (Or.inr rfl))))⟩
  · unfold f_M_set
    rw [mM_ob, Option.bind_some, hf, Option.bind_some, if_pos (nI_pos' (by omega)), Option.bind_some]
    dsimp only
    rw [mg_18 hP, Option.bind_some, ms_227 (by omega), Option.bind_some, mg_19 hP, Option.bind_some, ms_228 (by omega)]
    rfl
  · rw [uI_ne (by omega), uI_ne (by omega)]; exact h1
  · obtain ⟨q1, q2, q3, q4, q5, q6, q7, q8⟩ := h3 i hi
    by_cases c : i = j
    · rw [c, eu_at]
      rw [c] at q1 q2 q5 q6
      rw [e1] at q1 q5
      rw [e2] at q2 q6
      refine ⟨q1, ?_, ?_, uI_at, q5, q6, hfn, hri⟩
      · rw [uI_ne (by omega), uI_ne (by omega)]; exact q2
      · rw [uI_ne (by omega), uI_at]
    · rw [eu_ne c]
      refine ⟨q1, ?_, ?_, ?_, q5, q6, q7, q8⟩
      · rw [uI_ne (by omega), uI_ne (by omega)]; exact q2
      · rw [uI_ne (by omega), uI_ne (by omega)]; exact q3
      · rw [uI_ne (by omega), uI_ne (by omega)]; exact q4
theorem M_set_new (hP : mP b ρ) (h : mDir I L b n E) {x k fn ri : Nat} (hx : x < 2 ^ 32) (hk : k < 8) (hno : ∀ j, j < n → ¬ ((E j).1 = x ∧ (E j).2.1 = k)) (hn : n < 66) (hfn : fn < 2 ^ 20) (hri : ri < 2 ^ 20) : ∃ I', f_M_set (s, pw_lay (pw_σ b) (I, L, ρ)) (some (b + 211)) (lN x) (nI k) (nI fn) (nI ri) = some (s, pw_lay (pw_σ b) (I', uL L (b + 225) n (lN x), ρ)) ∧ mDir I' (uL L (b + 225) n (lN x)) b (n + 1) (eu E n (x, k, fn, ri)) ∧ mfr I I' (mCd b) := by
  have hf := M_find_no (s := s) hP h hx hk hno
  obtain ⟨h1, h2, h3⟩ := h
  refine ⟨uI (uI (uI (uI I (b + 211) 15 (nI (n + 1))) (b + 226) n (nI k)) (b + 227) n (nI fn)) (b + 228) n (nI ri), ?_, ⟨?_, by omega, fun i hi => ?_⟩, ((((mfr.uI (Or.inl ⟨rfl, rfl⟩)).trans (mfr.uI (Or.inr (Or.inl rfl)))).trans (mfr.uI (Or.inr (Or.inr (Or.inl rfl))))).trans (mfr.uI (Or.inr (Or.inr (Or.inr rfl)))))⟩
  · unfold f_M_set
    rw [mM_ob, Option.bind_some, hf, Option.bind_some, if_neg (by decide), mf_15, Option.bind_some, Option.bind_some, h1, nI_1, mw_15, Option.bind_some, mg_16 hP, Option.bind_some, ms_225 (by omega), Option.bind_some, mg_17 hP, Option.bind_some, ms_226 (by omega), Option.bind_some, Option.bind_some]
    dsimp only
    rw [mg_18 hP, Option.bind_some, ms_227 (by omega), Option.bind_some, mg_19 hP, Option.bind_some, ms_228 (by omega)]
    rfl
  · rw [uI_ne (by omega), uI_ne (by omega), uI_ne (by omega), uI_at]
  · by_cases c : i = n
    · rw [c, eu_at]
      refine ⟨uL_at, ?_, ?_, uI_at, hx, hk, hfn, hri⟩
      · rw [uI_ne (by omega), uI_ne (by omega), uI_at]
      · rw [uI_ne (by omega), uI_at]
    · obtain ⟨q1, q2, q3, q4, q5, q6, q7, q8⟩ := h3 i (by omega)
      rw [eu_ne c]
      refine ⟨by rw [uL_ne (by omega)]; exact q1, ?_, ?_, ?_, q5, q6, q7, q8⟩
      · rw [uI_ne (by omega), uI_ne (by omega), uI_ne (by omega), uI_ne (by omega)]; exact q2
      · rw [uI_ne (by omega), uI_ne (by omega), uI_ne (by omega), uI_ne (by omega)]; exact q3
      · rw [uI_ne (by omega), uI_ne (by omega), uI_ne (by omega), uI_ne (by omega)]; exact q4
theorem M_unset_no (hP : mP b ρ) (h : mDir I L b n E) {x k : Nat} (hx : x < 2 ^ 32) (hk : k < 8) (hno : ∀ j, j < n → ¬ ((E j).1 = x ∧ (E j).2.1 = k)) : f_M_unset (s, pw_lay (pw_σ b) (I, L, ρ)) (some (b + 211)) (lN x) (nI k) = some (s, pw_lay (pw_σ b) (I, L, ρ)) := by
  have hf := M_find_no (s := s) hP h hx hk hno
  unfold f_M_unset
  rw [mM_ob, Option.bind_some, hf, Option.bind_some, if_neg (by decide)]
theorem M_unset_at (hP : mP b ρ) (h : mDir I L b (n + 1) E) (hinj : mInj (n + 1) E) {x k j : Nat} (hj : j < n + 1) (e1 : (E j).1 = x) (e2 : (E j).2.1 = k) : ∃ I', f_M_unset (s, pw_lay (pw_σ b) (I, L, ρ)) (some (b + 211)) (lN x) (nI k) = some (s, pw_lay (pw_σ b) (I', uL L (b + 225) j (lN (E n).1), ρ)) ∧ mDir I' (uL L (b + 225) j (lN (E n).1)) b n (eu E j (E n)) ∧ mfr I I' (mCd b) := by
  have hf := M_find_at (s := s) hP h hinj hj e1 e2
  obtain ⟨h1, h2, h3⟩ := h
  obtain ⟨r1, r2, r3, r4, r5, r6, r7, r8⟩ := h3 n (Nat.lt_succ_self n)
  refine ⟨uI (uI (uI (uI I (b + 211) 15 (nI n)) (b + 226) j (nI (E n).2.1)) (b + 227) j (nI (E n).2.2.1)) (b + 228) j (nI (E n).2.2.2), ?_, ⟨?_, by omega, fun i hi => ?_⟩, ((((mfr.uI (Or.inl ⟨rfl, rfl⟩)).trans (mfr.uI (Or.inr (Or.inl rfl)))).trans (mfr.uI (Or.inr (Or.inr (Or.inl rfl))))).trans (mfr.uI (Or.inr (Or.inr (Or.inr rfl)))))⟩
  · unfold f_M_unset
    rw [mM_ob, Option.bind_some, hf, Option.bind_some, if_pos (nI_pos' (by omega)), mf_15, Option.bind_some, h1, nI_pred, mw_15, Option.bind_some, mg_16 hP, Option.bind_some, Option.bind_some, mf_15, Option.bind_some, uI_at, ma_225 (by omega), Option.bind_some, r1, ms_225 (by omega), Option.bind_some]
    rw [mg_17 hP, Option.bind_some, Option.bind_some, mf_15, Option.bind_some, uI_at, ma_226 (by omega), Option.bind_some, uI_ne (by omega), r2, ms_226 (by omega), Option.bind_some]
    rw [mg_18 hP, Option.bind_some, Option.bind_some, mf_15, Option.bind_some, uI_ne (by omega), uI_at, ma_227 (by omega), Option.bind_some, uI_ne (by omega), uI_ne (by omega), r3, ms_227 (by omega), Option.bind_some]
    rw [mg_19 hP, Option.bind_some, Option.bind_some, mf_15, Option.bind_some, uI_ne (by omega), uI_ne (by omega), uI_at, ma_228 (by omega), Option.bind_some, uI_ne (by omega), uI_ne (by omega), uI_ne (by omega), r4, ms_228 (by omega)]
    rfl
  · rw [uI_ne (by omega), uI_ne (by omega), uI_ne (by omega), uI_at]
  · by_cases c : i = j
    · rw [c, eu_at]
      refine ⟨uL_at, ?_, ?_, uI_at, r5, r6, r7, r8⟩
      · rw [uI_ne (by omega), uI_ne (by omega), uI_at]
      · rw [uI_ne (by omega), uI_at]
    · obtain ⟨q1, q2, q3, q4, q5, q6, q7, q8⟩ := h3 i (by omega)
      rw [eu_ne c]
      refine ⟨by rw [uL_ne (by omega)]; exact q1, ?_, ?_, ?_, q5, q6, q7, q8⟩
      · rw [uI_ne (by omega), uI_ne (by omega), uI_ne (by omega), uI_ne (by omega)]; exact q2
      · rw [uI_ne (by omega), uI_ne (by omega), uI_ne (by omega), uI_ne (by omega)]; exact q3
      · rw [uI_ne (by omega), uI_ne (by omega), uI_ne (by omega), uI_ne (by omega)]; exact q4
theorem M_live_no (hP : mP b ρ) (h : mDir I L b n E) {fn ri : Nat} (hfn : fn < 2 ^ 20) (hri : ri < 2 ^ 20) (hno : ∀ j, j < n → ¬ ((E j).2.2.1 = fn ∧ (E j).2.2.2 = ri)) : f_M_live (s, pw_lay (pw_σ b) (I, L, ρ)) (some (b + 211)) (nI fn) (nI ri) = some (-1) := by
  obtain ⟨h1, h2, h3⟩ := h
  unfold f_M_live
  refine (pw_loop (.inl (nI n)) n (fun j => nI j) rfl (fun j hj => ?_) ?_).trans rfl
  · obtain ⟨q1, q2, q3, q4, q5, q6, q7, q8⟩ := h3 j hj
    try dsimp only
    rw [mf_15, Option.bind_some, h1, if_neg (nI_ge hj (by omega)), mg_18 hP, Option.bind_some, ma_227 (by omega), Option.bind_some, q3]
    by_cases c1 : (E j).2.2.1 = fn
    · rw [if_pos (by rw [c1]), mg_19 hP, Option.bind_some, ma_228 (by omega), Option.bind_some, q4, if_neg (fun hc => hno j hj ⟨c1, (nI_eq (by omega) (by omega)).mp hc⟩), nI_1]
    · rw [if_neg (fun hc => c1 ((nI_eq (by omega) (by omega)).mp hc)), nI_1]
  · try dsimp only
    rw [mf_15, Option.bind_some, h1, if_pos (nI_le (Nat.le_refl _) (by omega))]
theorem M_live_at (hP : mP b ρ) (h : mDir I L b n E) {fn ri j : Nat} (hj : j < n) (e1 : (E j).2.2.1 = fn) (e2 : (E j).2.2.2 = ri) (huq : ∀ i, i < n → (E i).2.2.1 = fn → (E i).2.2.2 = ri → i = j) : f_M_live (s, pw_lay (pw_σ b) (I, L, ρ)) (some (b + 211)) (nI fn) (nI ri) = some (nI j) := by
  obtain ⟨h1, h2, h3⟩ := h
  obtain ⟨r1, r2, r3, r4, r5, r6, r7, r8⟩ := h3 j hj
  unfold f_M_live
  refine (pw_loop (.inr (nI j)) j (fun i => nI i) rfl (fun i hi => ?_) ?_).trans rfl
  · obtain ⟨q1, q2, q3, q4, q5, q6, q7, q8⟩ := h3 i (by omega)
    try dsimp only
    rw [mf_15, Option.bind_some, h1, if_neg (nI_ge (by omega) (by omega)), mg_18 hP, Option.bind_some, ma_227 (by omega), Option.bind_some, q3]
    by_cases c1 : (E i).2.2.1 = fn
    · rw [if_pos (by rw [c1]), mg_19 hP, Option.bind_some, ma_228 (by omega), Option.bind_some, q4, if_neg (fun hc => by
        have := huq i (by omega) c1 ((nI_eq (by omega) (by omega)).mp hc)
        omega), nI_1]
    · rw [if_neg (fun hc => c1 ((nI_eq (by omega) (by omega)).mp hc)), nI_1]
  · try dsimp only
    rw [mf_15, Option.bind_some, h1, if_neg (nI_ge hj (by omega)), mg_18 hP, Option.bind_some, ma_227 (by omega), Option.bind_some, r3, if_pos (by rw [e1]), mg_19 hP, Option.bind_some, ma_228 (by omega), Option.bind_some, r4, if_pos (by rw [e2])]
theorem M_rowOf (hP : mP b ρ) {nm : Nat → Nat} {cnt i : Nat} (hc : cnt ≤ 12) (hnm : ∀ j, j < cnt → I (b + 212) j = nI (nm j) ∧ nm j < 2 ^ 20) (hi : i < cnt) (huq : ∀ j, j < cnt → nm j = nm i → j = i) : f_M_rowOf (s, pw_lay (pw_σ b) (I, L, ρ)) (some (b + 211)) (nI (nm i)) = some (nI i) := by
  unfold f_M_rowOf
  refine (pw_loop (nI i) i (fun j => nI j) rfl (fun j hj => ?_) ?_).trans rfl
  · try dsimp only
    rw [mg_2 hP, Option.bind_some, ma_212 (by omega), Option.bind_some, (hnm j (by omega)).1, if_neg (fun hx => by
      have h1 := (hnm j (by omega)).2
      have h2 := (hnm i hi).2
      have := huq j (by omega) ((nI_eq (by omega) (by omega)).mp hx)
      omega), nI_1]
  · try dsimp only
    rw [mg_2 hP, Option.bind_some, ma_212 (by omega), Option.bind_some, (hnm i hi).1, if_pos rfl]
end
