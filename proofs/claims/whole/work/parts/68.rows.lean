/-! ===== the directory: rows are put in, taken out, set ===== -/
/-- what a directory's operation touches -/
def pw_inD (d : Nat) (a : Nat) : Prop := a = d ∨ a = d + 1
theorem pw_D.fr {σ : Nat → Option pw_Sh} {μ μ' : pw_Mem} {d : Nat} {Ds : List Nat} {P : Nat → Prop} (h : pw_D σ μ d Ds) (g : pw_fr μ μ' P) (h1 : ¬ P d) (h2 : ¬ P (d + 1)) : pw_D σ μ' d Ds := by
  obtain ⟨a1, a2, a3, a4, a5, a6, a7⟩ := h
  exact ⟨a1, a2, by rw [(g d h1).2.2]; exact a3, by rw [(g d h1).1]; exact a4, a5, fun i hi => by rw [(g _ h2).2.2]; exact a6 i hi, a7⟩
/-- rows move up, k of them -/
def pw_up1 (μ : pw_Mem) (a n : Nat) : Nat → pw_Mem
  | 0 => μ
  | k + 1 => pw_sR (pw_up1 μ a n k) a (n - k) (μ.2.2 a (n - k - 1))
theorem pw_up1_at (μ : pw_Mem) (a n : Nat) : ∀ k, k ≤ n → (pw_up1 μ a n k).1 = μ.1 ∧ (pw_up1 μ a n k).2.1 = μ.2.1 ∧ (∀ b, b ≠ a → (pw_up1 μ a n k).2.2 b = μ.2.2 b) ∧ ∀ i, (pw_up1 μ a n k).2.2 a i = if n - k < i ∧ i ≤ n then μ.2.2 a (i - 1) else μ.2.2 a i
  | 0, _ => ⟨rfl, rfl, fun _ _ => rfl, fun i => by rw [if_neg (by omega)]; rfl⟩
  | k + 1, h => by
    obtain ⟨h1, h2, h3, h4⟩ := pw_up1_at μ a n k (by omega)
    refine ⟨h1, h2, fun b hb => (pw_sR_off hb).trans (h3 b hb), fun i => ?_⟩
    show (if a = a ∧ i = n - k then μ.2.2 a (n - k - 1) else (pw_up1 μ a n k).2.2 a i) = _
    by_cases hi : i = n - k
    · rw [if_pos ⟨rfl, hi⟩, if_pos (by omega), hi]
    · rw [if_neg (fun hc => hi hc.2), h4]
      by_cases hc : n - k < i ∧ i ≤ n
      · rw [if_pos hc, if_pos (by omega)]
      · rw [if_neg hc, if_neg (by omega)]
/-- rows move down, from i on, k of them -/
def pw_dn1 (μ : pw_Mem) (a i : Nat) : Nat → pw_Mem
  | 0 => μ
  | k + 1 => pw_sR (pw_dn1 μ a i k) a (i + k) (μ.2.2 a (i + k + 1))
theorem pw_dn1_at (μ : pw_Mem) (a i : Nat) : ∀ k, (pw_dn1 μ a i k).1 = μ.1 ∧ (pw_dn1 μ a i k).2.1 = μ.2.1 ∧ (∀ b, b ≠ a → (pw_dn1 μ a i k).2.2 b = μ.2.2 b) ∧ ∀ j, (pw_dn1 μ a i k).2.2 a j = if i ≤ j ∧ j < i + k then μ.2.2 a (j + 1) else μ.2.2 a j
  | 0 => ⟨rfl, rfl, fun _ _ => rfl, fun j => by rw [if_neg (by omega)]; rfl⟩
  | k + 1 => by
    obtain ⟨h1, h2, h3, h4⟩ := pw_dn1_at μ a i k
    refine ⟨h1, h2, fun b hb => (pw_sR_off hb).trans (h3 b hb), fun j => ?_⟩
    show (if a = a ∧ j = i + k then μ.2.2 a (i + k + 1) else (pw_dn1 μ a i k).2.2 a j) = _
    by_cases hi : j = i + k
    · rw [if_pos ⟨rfl, hi⟩, if_pos (by omega), hi]
    · rw [if_neg (fun hc => hi hc.2), h4]
      by_cases hc : i ≤ j ∧ j < i + k
      · rw [if_pos hc, if_pos (by omega)]
      · rw [if_neg hc, if_neg (by omega)]
section
variable {σ : Nat → Option pw_Sh} {μ : pw_Mem} {s : Option Nat} {d : Nat} {Ds : List Nat}
theorem pd_obj (h : pw_D σ μ d Ds) : aw_obj (s, pw_lay σ μ) (some d) 1 = some (d, pw_fs μ d 1) := by
  rw [pw_obj, pw_ob_of h.1]
  rfl
theorem pd_g0 (h : pw_D σ μ d Ds) : aw_gR (s, pw_lay σ μ) (some d) 1 0 = some (some (d + 1)) := by
  rw [pg_D_0, pw_ob_of h.1]
  exact congrArg some h.2.2.1
theorem pd_row (h : pw_D σ μ d Ds) {i : Nat} (hi : i < Ds.length) : aw_aR (s, pw_lay σ μ) (some (d + 1)) 4 (nI i) = some (some Ds[i]) := by
  have := h.2.2.2.2.1
  rw [pw_aR_4, pw_aa_of h.2.1]
  simp only [Option.bind_some]
  rw [aw_ix_nI (by omega) (by decide)]
  show some (μ.2.2 (d + 1) i) = _
  rw [h.2.2.2.2.2.1 i hi, List.getElem?_eq_getElem hi]
theorem pd_setRow (h : pw_D σ μ d Ds) {i r : Nat} (hi : i < Ds.length) (hr : σ r = some (.inr 4)) : ∃ μ', aw_sR (s, pw_lay σ μ) (some (d + 1)) 4 (nI i) (some r) = some (s, pw_lay σ μ') ∧ pw_D σ μ' d (Ds.set i r) ∧ pw_fr μ μ' (pw_inD d) := by
  obtain ⟨a1, a2, a3, a4, a5, a6, a7⟩ := h
  refine ⟨pw_sR μ (d + 1) i (some r), ?_, ⟨a1, a2, ?_, ?_, ?_, fun j hj => ?_, fun q hq => ?_⟩, pw_fr.sR (Or.inr rfl)⟩
  · rw [pw_sR_4, pw_aa_of a2]
    simp only [Option.bind_some]
    rw [aw_ix_nI (by omega) (by decide)]
    rfl
  · rw [pw_sR_off (by omega)]; exact a3
  · rw [List.length_set]; exact a4
  · rw [List.length_set]; exact a5
  · rw [List.length_set] at hj
    show (if d + 1 = d + 1 ∧ j = i then some r else μ.2.2 (d + 1) j) = _
    rw [List.getElem?_set]
    by_cases hji : j = i
    · rw [if_pos ⟨rfl, hji⟩, if_pos hji.symm, if_pos hi]
    · rw [if_neg (fun hc => hji hc.2), if_neg (fun hc => hji hc.symm), a6 j hj]
  · rcases List.mem_or_eq_of_mem_set hq with hq | rfl
    · exact a7 q hq
    · exact hr
theorem pd_insert (h : pw_D σ μ d Ds) {i r : Nat} (hi : i ≤ Ds.length) (hl : Ds.length < 66) (hr : σ r = some (.inr 4)) : ∃ μ', f_D_insert (s, pw_lay σ μ) (some d) (nI i) (some r) = some (s, pw_lay σ μ') ∧ pw_D σ μ' d (Ds.take i ++ r :: Ds.drop i) ∧ pw_fr μ μ' (pw_inD d) := by
  have hD := h
  obtain ⟨a1, a2, a3, a4, a5, a6, a7⟩ := h
  have hU := pw_up1_at μ (d + 1) Ds.length (Ds.length - i) (by omega)
  obtain ⟨u1, u2, u3, u4⟩ := hU
  refine ⟨pw_sI (pw_sR (pw_up1 μ (d + 1) Ds.length (Ds.length - i)) (d + 1) i (some r)) d 1 (nI (Ds.length + 1)), ?_, ⟨a1, a2, ?_, ?_, ?_, fun j hj => ?_, fun q hq => ?_⟩, fun a ha => ?_⟩
  · unfold f_D_insert
    rw [pg_D_1, pw_ob_of a1]
    simp only [Option.map_some, Option.bind_some, a4]
    rw [pd_g0 hD, Option.bind_some, pw_len, pw_aa_of a2]
    simp only [Option.map_some, Option.bind_some]
    rw [show Int32.ofNat 66 = nI 66 from rfl, if_neg (fun hc => absurd ((nI_eq (by omega) (by decide)).mp hc) (by omega))]
    refine (pw_loop (nI i, (s, pw_lay σ (pw_up1 μ (d + 1) Ds.length (Ds.length - i)))) (Ds.length - i) (fun k => (nI (Ds.length - k), (s, pw_lay σ (pw_up1 μ (d + 1) Ds.length k)))) rfl (fun k hk => ?_) ?_).trans ?_
    · obtain ⟨w1, w2, w3, w4⟩ := pw_up1_at μ (d + 1) Ds.length k (by omega)
      have hg : aw_gR (s, pw_lay σ (pw_up1 μ (d + 1) Ds.length k)) (some d) 1 0 = some (some (d + 1)) := by
        rw [pg_D_0, pw_ob_of a1]
        simp only [Option.map_some]
        rw [w3 d (by omega), a3]
      obtain ⟨j, hj⟩ : ∃ j, Ds.length - k = j + 1 := ⟨Ds.length - k - 1, by omega⟩
      have hv : μ.2.2 (d + 1) j = some Ds[j] := by rw [a6 j (by omega), List.getElem?_eq_getElem (by omega)]
      dsimp only
      rw [if_neg (nI_ge (by omega) (by omega)), hg]
      simp only [Option.bind_some]
      rw [hj, nI_pred, pw_aR_4, pw_aa_of a2]
      simp only [Option.bind_some]
      rw [aw_ix_nI (by omega) (by decide)]
      simp only [Option.map_some, Option.bind_some]
      rw [w4, if_neg (by omega), hv, pw_obj, pw_ob_of (a7 _ (List.getElem_mem _))]
      simp only [Option.map_some, Option.bind_some]
      rw [pw_sR_4, pw_aa_of a2]
      simp only [Option.bind_some]
      rw [aw_ix_nI (by omega) (by decide)]
      simp only [Option.map_some, Option.bind_some]
      rw [show nI (j + 1) + (-1) = nI (j + 1) - 1 from (Int32.sub_eq_add_neg (nI (j + 1)) 1).symm, nI_pred, show Ds.length - (k + 1) = j by omega, pw_up1, hj, show j + 1 - 1 = j from rfl, hv]
    · dsimp only
      rw [show Ds.length - (Ds.length - i) = i by omega, if_pos (nI_le (Nat.le_refl _) (by omega))]
    · have hg : aw_gR (s, pw_lay σ (pw_up1 μ (d + 1) Ds.length (Ds.length - i))) (some d) 1 0 = some (some (d + 1)) := by
        rw [pg_D_0, pw_ob_of a1]
        simp only [Option.map_some]
        rw [u3 d (by omega), a3]
      dsimp only
      rw [hg, Option.bind_some, pw_obj, pw_ob_of hr]
      simp only [Option.map_some, Option.bind_some]
      rw [pw_sR_4, pw_aa_of a2]
      simp only [Option.bind_some]
      rw [aw_ix_nI (by omega) (by decide)]
      simp only [Option.map_some, Option.bind_some]
      rw [pg_D_1, pw_ob_of a1]
      simp only [Option.map_some, Option.bind_some]
      rw [show (pw_sR (pw_up1 μ (d + 1) Ds.length (Ds.length - i)) (d + 1) i (some r)).1 d 1 = nI Ds.length from (congrFun (congrFun u1 d) 1).trans a4, nI_1, pp_D_1, pw_ob_of a1]
      rfl
  · show (pw_sR (pw_up1 μ (d + 1) Ds.length (Ds.length - i)) (d + 1) i (some r)).2.2 d 0 = _
    rw [pw_sR_off (by omega), u3 d (by omega)]
    exact a3
  · rw [pw_sI_I, if_pos ⟨rfl, rfl⟩]
    simp only [List.length_append, List.length_take, List.length_cons, List.length_drop]
    congr 1
    omega
  · simp only [List.length_append, List.length_take, List.length_cons, List.length_drop]
    omega
  · simp only [List.length_append, List.length_take, List.length_cons, List.length_drop] at hj
    show (if d + 1 = d + 1 ∧ j = i then some r else (pw_up1 μ (d + 1) Ds.length (Ds.length - i)).2.2 (d + 1) j) = _
    rw [u4]
    have htl : (Ds.take i).length = i := by rw [List.length_take]; omega
    by_cases h1 : j = i
    · rw [if_pos ⟨rfl, h1⟩, List.getElem?_append_right (by omega), htl, h1, Nat.sub_self]
      rfl
    · rw [if_neg (fun hc => h1 hc.2)]
      by_cases h2 : j < i
      · rw [if_neg (by omega), List.getElem?_append_left (by omega), List.getElem?_take_of_lt h2, a6 j (by omega)]
      · rw [if_pos (by omega), List.getElem?_append_right (by omega), htl, show j - i = (j - 1 - i) + 1 by omega, List.getElem?_cons_succ, List.getElem?_drop, show i + (j - 1 - i) = j - 1 by omega, a6 (j - 1) (by omega)]
  · rcases List.mem_append.mp hq with hq | hq
    · exact a7 q (List.mem_of_mem_take hq)
    · rcases List.mem_cons.mp hq with rfl | hq
      · exact hr
      · exact a7 q (List.mem_of_mem_drop hq)
  · unfold pw_inD at ha
    refine ⟨?_, ?_, ?_⟩
    · rw [pw_sI_off (by omega)]
      exact congrFun u1 a
    · exact congrFun u2 a
    · exact (pw_sR_off (by omega)).trans (u3 a (by omega))
theorem pd_takeOut (h : pw_D σ μ d Ds) {i : Nat} (hi : i < Ds.length) : ∃ μ', f_D_takeOut (s, pw_lay σ μ) (some d) (nI i) = some (s, pw_lay σ μ') ∧ pw_D σ μ' d (Ds.eraseIdx i) ∧ pw_fr μ μ' (pw_inD d) := by
  have hD := h
  obtain ⟨a1, a2, a3, a4, a5, a6, a7⟩ := h
  obtain ⟨n, hn⟩ : ∃ n, Ds.length = n + 1 := ⟨Ds.length - 1, by omega⟩
  obtain ⟨u1, u2, u3, u4⟩ := pw_dn1_at μ (d + 1) i (n - i)
  have hlen : (Ds.eraseIdx i).length = n := by rw [List.length_eraseIdx, if_pos hi, hn]; rfl
  refine ⟨pw_sI (pw_dn1 μ (d + 1) i (n - i)) d 1 (nI n), ?_, ⟨a1, a2, ?_, ?_, ?_, fun j hj => ?_, fun q hq => ?_⟩, fun a ha => ?_⟩
  · unfold f_D_takeOut
    refine (pw_loop (nI n, (s, pw_lay σ (pw_dn1 μ (d + 1) i (n - i)))) (n - i) (fun k => (nI (i + k), (s, pw_lay σ (pw_dn1 μ (d + 1) i k)))) rfl (fun k hk => ?_) ?_).trans ?_
    · obtain ⟨w1, w2, w3, w4⟩ := pw_dn1_at μ (d + 1) i k
      have hg : aw_gR (s, pw_lay σ (pw_dn1 μ (d + 1) i k)) (some d) 1 0 = some (some (d + 1)) := by
        rw [pg_D_0, pw_ob_of a1]
        simp only [Option.map_some]
        rw [w3 d (by omega), a3]
      have hv : μ.2.2 (d + 1) (i + k + 1) = some Ds[i + k + 1] := by rw [a6 _ (by omega), List.getElem?_eq_getElem (by omega)]
      dsimp only
      rw [pg_D_1, pw_ob_of a1]
      simp only [Option.map_some, Option.bind_some]
      rw [w1, a4, hn, nI_pred, if_neg (nI_ge (by omega) (by omega)), hg]
      simp only [Option.bind_some]
      rw [nI_1, pw_aR_4, pw_aa_of a2]
      simp only [Option.bind_some]
      rw [aw_ix_nI (by omega) (by decide)]
      simp only [Option.map_some, Option.bind_some]
      rw [w4, if_neg (by omega), hv, pw_obj, pw_ob_of (a7 _ (List.getElem_mem _))]
      simp only [Option.map_some, Option.bind_some]
      rw [pw_sR_4, pw_aa_of a2]
      simp only [Option.bind_some]
      rw [aw_ix_nI (by omega) (by decide)]
      simp only [Option.map_some, Option.bind_some]
      rw [pw_dn1, hv]
      rfl
    · dsimp only
      rw [pg_D_1, pw_ob_of a1]
      simp only [Option.map_some, Option.bind_some]
      rw [u1, a4, hn, nI_pred, show i + (n - i) = n by omega, if_pos (nI_le (Nat.le_refl _) (by omega))]
    · dsimp only
      rw [pg_D_1, pw_ob_of a1]
      simp only [Option.map_some, Option.bind_some]
      rw [u1, a4, hn, nI_pred, pp_D_1, pw_ob_of a1]
      rfl
  · show (pw_dn1 μ (d + 1) i (n - i)).2.2 d 0 = _
    rw [u3 d (by omega)]
    exact a3
  · rw [pw_sI_I, if_pos ⟨rfl, rfl⟩, hlen]
  · omega
  · rw [hlen] at hj
    show (pw_dn1 μ (d + 1) i (n - i)).2.2 (d + 1) j = _
    rw [u4, List.getElem?_eraseIdx]
    by_cases h1 : j < i
    · rw [if_neg (by omega), if_pos h1, a6 j (by omega)]
    · rw [if_pos (by omega), if_neg h1, a6 (j + 1) (by omega)]
  · exact a7 q (List.mem_of_mem_eraseIdx hq)
  · unfold pw_inD at ha
    refine ⟨?_, ?_, ?_⟩
    · rw [pw_sI_off (by omega)]
      exact congrFun u1 a
    · exact congrFun u2 a
    · exact u3 a (by omega)
theorem pd_clear (h : pw_D σ μ d Ds) : ∃ μ', f_D_clear (s, pw_lay σ μ) (some d) = some (s, pw_lay σ μ') ∧ pw_D σ μ' d [] ∧ pw_fr μ μ' (pw_inD d) := by
  obtain ⟨a1, a2, a3, a4, a5, a6, a7⟩ := h
  refine ⟨pw_sI μ d 1 (nI 0), ?_, ⟨a1, a2, a3, ?_, Nat.zero_le _, fun i hi => (by cases hi), fun q hq => (by cases hq)⟩, pw_fr.sI (Or.inl rfl)⟩
  · unfold f_D_clear
    rw [show (Value.int 0) = Value.int (nI 0) from rfl, pp_D_1, pw_ob_of a1]
    rfl
  · rw [pw_sI_I, if_pos ⟨rfl, rfl⟩]
    rfl
end
