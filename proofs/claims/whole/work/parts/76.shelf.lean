/-! ===== the shelf exchanges and takes out; entries in order ===== -/
theorem pe_L_lt {α : Type} {x : Nat} : ∀ {D : List (Nat × α)} {e : Nat × α}, e ∈ pe_L x D → e.1 < x
  | [], e, h => by cases h
  | q :: t, e, h => by
    unfold pe_L at h
    rw [List.takeWhile_cons] at h
    split at h
    · next c =>
      rcases List.mem_cons.mp h with rfl | h
      · simpa using c
      · exact pe_L_lt (D := t) h
    · cases h
theorem pe_R_ge {α : Type} {x : Nat} : ∀ {D : List (Nat × α)}, dS D → ∀ {e : Nat × α}, e ∈ pe_R x D → x ≤ e.1
  | [], _, e, h => by cases h
  | q :: t, hs, e, h => by
    have hs' := List.pairwise_cons.mp hs
    unfold pe_R at h
    rw [List.dropWhile_cons] at h
    split at h
    · exact pe_R_ge hs'.2 (x := x) h
    · next c =>
      have c2 : ¬ q.1 < x := by simpa using c
      rcases List.mem_cons.mp h with rfl | h
      · omega
      · have := hs'.1 _ h
        omega
theorem dS.split {α : Type} {x : Nat} {D : List (Nat × α)} (hs : dS D) : dS (pe_L x D) ∧ dS (pe_R x D) := by
  have h : dS (pe_L x D ++ pe_R x D) := by rw [pe_LR]; exact hs
  have := List.pairwise_append.mp h
  exact ⟨this.1, this.2.1⟩
theorem pe_B_gt {α : Type} {x : Nat} {D : List (Nat × α)} (hs : dS D) : dS (pe_B x D) ∧ ∀ {e : Nat × α}, e ∈ pe_B x D → x < e.1 ∧ e ∈ D := by
  have h2 := (hs.split (x := x)).2
  have h3 := fun e => pe_R_ge (x := x) hs (e := e)
  have h4 : ∀ e ∈ pe_R x D, e ∈ D := fun e he => by rw [← pe_LR x D]; exact List.mem_append_right _ he
  unfold pe_B
  cases hR : pe_R x D with
  | nil => exact ⟨List.Pairwise.nil, fun h => by cases h⟩
  | cons e t =>
    rw [hR] at h2 h3 h4
    have h2' := List.pairwise_cons.mp h2
    dsimp only
    split
    · next c =>
      refine ⟨h2'.2, fun {q} hq => ⟨?_, h4 q (List.mem_cons_of_mem _ hq)⟩⟩
      have := h2'.1 q hq
      omega
    · next c =>
      refine ⟨h2, fun {q} hq => ⟨?_, h4 q hq⟩⟩
      have he := h3 e List.mem_cons_self
      rcases List.mem_cons.mp hq with rfl | hq
      · omega
      · have := h2'.1 q hq
        omega
theorem dS.en {α : Type} {x : Nat} {a : α} {t : Bool} {D : List (Nat × α)} (hs : dS D) : dS (pe_en x a t D) := by
  obtain ⟨b1, b2⟩ := pe_B_gt (x := x) hs
  unfold pe_en
  refine List.pairwise_append.mpr ⟨(hs.split (x := x)).1, ?_, fun e he q hq => ?_⟩
  · cases t with
    | true => exact b1
    | false => exact List.pairwise_cons.mpr ⟨fun q hq => (b2 hq).1, b1⟩
  · have h1 := pe_L_lt he
    rcases List.mem_append.mp hq with hq | hq
    · cases t with
      | true => cases hq
      | false => rw [List.mem_singleton.mp hq]; exact h1
    · have := (b2 hq).1
      omega
/-- what is in the directory behind an entering -/
theorem pe_en_mem {α : Type} {x : Nat} {a : α} {t : Bool} {D : List (Nat × α)} (hs : dS D) {e : Nat × α} : e ∈ pe_en x a t D ↔ (e ∈ D ∧ e.1 ≠ x) ∨ (t = false ∧ e = (x, a)) := by
  obtain ⟨b1, b2⟩ := pe_B_gt (x := x) hs
  unfold pe_en
  constructor
  · intro h
    rcases List.mem_append.mp h with h | h
    · have h1 := pe_L_lt h
      refine Or.inl ⟨?_, by omega⟩
      rw [← pe_LR x D]
      exact List.mem_append_left _ h
    · rcases List.mem_append.mp h with h | h
      · cases t with
        | true => cases h
        | false => exact Or.inr ⟨rfl, List.mem_singleton.mp h⟩
      · have := b2 h
        exact Or.inl ⟨this.2, by omega⟩
  · rintro (⟨h1, h2⟩ | ⟨h1, h2⟩)
    · rw [← pe_LR x D] at h1
      rcases List.mem_append.mp h1 with h1 | h1
      · exact List.mem_append_left _ h1
      · refine List.mem_append_right _ (List.mem_append_right _ ?_)
        unfold pe_B
        cases hR : pe_R x D with
        | nil => rw [hR] at h1; cases h1
        | cons q l =>
          rw [hR] at h1
          dsimp only
          split
          · next c =>
            rcases List.mem_cons.mp h1 with rfl | h1
            · exact absurd c h2
            · exact h1
          · exact h1
    · rw [h1, h2]
      exact List.mem_append_right _ (List.mem_append_left _ (List.mem_singleton.mpr rfl))
section
variable {μ μ' : pw_Mem} {s : Option Nat} {b cnt last made taken af ar : Nat} {act : Bool} {sl ou : List Nat} {φ : Nat → qf}
theorem getD_set {l : List Nat} {i j : Nat} {x : Nat} (hi : i < l.length) : (l.set i x).getD j 0 = if j = i then x else l.getD j 0 := by
  unfold List.getD
  rw [List.getElem?_set]
  by_cases h : i = j
  · rw [if_pos h, if_pos hi, if_pos h.symm]
    rfl
  · rw [if_neg h, if_neg (fun hc => h hc.symm)]
/-- a file takes the place of another on the shelf, and the other that of an output -/
theorem kS_exchange (hS : kS μ b sl cnt act last) {i f : Nat} (hi : i < cnt) (hf : isB b f) (ha : act = true → i < cnt - 1) :
    ∃ μ', f_S_exchange (s, pw_lay (pw_σ b) μ) (some (b + 1)) (nI i) (some f) = some (some (sl.getD i 0), (s, pw_lay (pw_σ b) μ')) ∧ kS μ' b (sl.set i f) cnt act last ∧ pw_fr μ μ' (fun a => a = b + 2) := by
  have hS' := hS
  obtain ⟨h1, h2, h3, h4, h5, h6, h7, h8, h9⟩ := hS'
  refine ⟨pw_sR μ (b + 2) i (some f), ?_, ⟨?_, h2, ?_, h4, by rw [List.length_set]; exact h5, h6, h7, fun j hj => ?_, fun g hg => ?_⟩, pw_fr.sR rfl⟩
  · have hfo : pw_σ b f = some (.inr 6) := by
      obtain ⟨k, hk, hf⟩ := hf
      rcases hf with rfl | rfl
      · exact (pw_blk_S hk).1
      · exact (pw_blk_G hk).1
    unfold f_S_exchange
    rw [if_neg (nI_pos (by omega)), kS_g1 hS, Option.bind_some, if_pos (nI_lt hi (by omega)), kS_g0 hS, Option.bind_some, kS_row hS (by omega), Option.bind_some, Option.bind_some, pw_obj, pw_ob_of hfo]
    simp only [Option.map_some, Option.bind_some]
    rw [pw_sR_5, pw_aa_of kS_ar]
    simp only [Option.bind_some]
    rw [aw_ix_nI (by omega) (by decide)]
    simp only [Option.map_some, Option.bind_some]
    rw [(kS_getD hS (i := i) (by omega)).1]
  · rw [pw_sR_off (by omega)]; exact h1
  · rw [pw_sR_off (by omega), h3]
    cases act with
    | false => rfl
    | true =>
      have := ha rfl
      rw [if_pos rfl, if_pos rfl, List.getElem?_set, if_neg (by omega)]
  · show (if b + 2 = b + 2 ∧ j = i then some f else μ.2.2 (b + 2) j) = _
    rw [List.getElem?_set]
    by_cases hji : j = i
    · rw [if_pos ⟨rfl, hji⟩, if_pos hji.symm, if_pos (by omega)]
    · rw [if_neg (fun hc => hji hc.2), if_neg (fun hc => hji hc.symm)]
      exact h8 j hj
  · rcases List.mem_or_eq_of_mem_set hg with hg | rfl
    · exact h9 g hg
    · exact hf
theorem kG_setRow (hG : kG μ b ou made taken af ar) {i f : Nat} (hi : i < 6) (hf : isB b f) : ∃ μ', aw_sR (s, pw_lay (pw_σ b) μ) (some (b + 108)) 5 (nI i) (some f) = some (s, pw_lay (pw_σ b) μ') ∧ kG μ' b (ou.set i f) made taken af ar ∧ pw_fr μ μ' (fun a => a = b + 108) := by
  obtain ⟨h1, h2, h3, h4, h5, h6, h7, h8⟩ := hG
  refine ⟨pw_sR μ (b + 108) i (some f), ?_, ⟨?_, h2, h3, h4, h5, by rw [List.length_set]; exact h6, fun j hj => ?_, fun g hg => ?_⟩, pw_fr.sR rfl⟩
  · rw [pw_sR_5, pw_aa_of kG_ar]
    simp only [Option.bind_some]
    rw [aw_ix_nI hi (by decide)]
    rfl
  · rw [pw_sR_off (by omega)]; exact h1
  · show (if b + 108 = b + 108 ∧ j = i then some f else μ.2.2 (b + 108) j) = _
    rw [List.getElem?_set]
    by_cases hji : j = i
    · rw [if_pos ⟨rfl, hji⟩, if_pos hji.symm, if_pos (by omega)]
    · rw [if_neg (fun hc => hji hc.2), if_neg (fun hc => hji hc.symm)]
      exact h7 j hj
  · rcases List.mem_or_eq_of_mem_set hg with hg | rfl
    · exact h8 g hg
    · exact hf
theorem isB.sh {b f : Nat} (hf : isB b f) : pw_σ b f = some (.inr 6) := by
  obtain ⟨k, hk, hf⟩ := hf
  rcases hf with rfl | rfl
  · exact (pw_blk_S hk).1
  · exact (pw_blk_G hk).1
/-- the file k is taken out: it stands last, behind the others -/
theorem kS_takeOut (hS : kS μ b sl cnt act last) {k : Nat} (hk : k < cnt) (ha : act = true → k < cnt - 1) :
    ∃ μ' sl', f_S_takeOut (s, pw_lay (pw_σ b) μ) (some (b + 1)) (nI k) = some (s, pw_lay (pw_σ b) μ') ∧ kS μ' b sl' (cnt - 1) act last ∧ (∀ j, j < 6 → sl'.getD j 0 = if j < k then sl.getD j 0 else if j < 5 then sl.getD (j + 1) 0 else sl.getD k 0) ∧ pw_fr μ μ' (fun a => a = b + 1 ∨ a = b + 2) := by
  have hS' := hS
  obtain ⟨h1, h2, h3, h4, h5, h6, h7, h8, h9⟩ := hS'
  obtain ⟨n, hn⟩ : ∃ n, cnt = n + 1 := ⟨cnt - 1, by omega⟩
  obtain ⟨u1, u2, u3, u4⟩ := pw_dn1_at μ (b + 2) k (5 - k)
  have row : ∀ j, j < 6 → μ.2.2 (b + 2) j = some (sl.getD j 0) := fun j hj => by rw [h8 j hj, (kS_getD hS hj).1]
  have hB : ∀ j, j < 6 → isB b (sl.getD j 0) := fun j hj => (kS_getD hS hj).2.2
  refine ⟨pw_sI (pw_sR (pw_dn1 μ (b + 2) k (5 - k)) (b + 2) 5 (some (sl.getD k 0))) (b + 1) 1 (nI n), (List.range 6).map (fun j => if j < k then sl.getD j 0 else if j < 5 then sl.getD (j + 1) 0 else sl.getD k 0), ?_, ?_, fun j hj => ?_, fun a hna => ?_⟩
  · unfold f_S_takeOut
    rw [if_neg (nI_pos (by omega)), kS_g1 hS, Option.bind_some, if_pos (nI_lt hk (by omega)), kS_g0 hS, Option.bind_some, kS_row hS (by omega), Option.bind_some, (kS_getD hS (i := k) (by omega)).1]
    have hg : ∀ m, aw_gR (s, pw_lay (pw_σ b) (pw_dn1 μ (b + 2) k m)) (some (b + 1)) 5 0 = some (some (b + 2)) := fun m => by
      obtain ⟨w1, w2, w3, w4⟩ := pw_dn1_at μ (b + 2) k m
      rw [pg_S_0, pw_ob_of kS_sh]
      simp only [Option.map_some]
      rw [w3 (b + 1) (by omega), h1]
    refine (pw_loop (nI 5, (s, pw_lay (pw_σ b) (pw_dn1 μ (b + 2) k (5 - k)))) (5 - k) (fun m => (nI (k + m), (s, pw_lay (pw_σ b) (pw_dn1 μ (b + 2) k m)))) rfl (fun m hm => ?_) ?_).trans ?_
    · obtain ⟨w1, w2, w3, w4⟩ := pw_dn1_at μ (b + 2) k m
      dsimp only
      rw [hg, Option.bind_some, kS_len, Option.bind_some, show nI 6 - (1 : Int32) = nI 5 by decide, if_neg (nI_ge (by omega) (by decide)), Option.bind_some, Option.bind_some, nI_1, pw_aR_5, pw_aa_of kS_ar]
      simp only [Option.bind_some]
      rw [aw_ix_nI (by omega) (by decide)]
      simp only [Option.map_some, Option.bind_some]
      rw [w4, if_neg (by omega), row _ (by omega), pw_obj, pw_ob_of (hB (k + m + 1) (by omega)).sh]
      simp only [Option.map_some, Option.bind_some]
      rw [pw_sR_5, pw_aa_of kS_ar]
      simp only [Option.bind_some]
      rw [aw_ix_nI (by omega) (by decide)]
      simp only [Option.map_some, Option.bind_some]
      rw [pw_dn1, row _ (by omega)]
      rfl
    · dsimp only
      rw [hg, Option.bind_some, kS_len, Option.bind_some, show nI 6 - (1 : Int32) = nI 5 by decide, show k + (5 - k) = 5 by omega, if_pos (nI_le (Nat.le_refl _) (by decide))]
    · dsimp only
      rw [hg, Option.bind_some, Option.bind_some, kS_len, Option.bind_some, show nI 6 - (1 : Int32) = nI 5 by decide, pw_obj, pw_ob_of (hB k (by omega)).sh]
      simp only [Option.map_some, Option.bind_some]
      rw [pw_sR_5, pw_aa_of kS_ar]
      simp only [Option.bind_some]
      rw [aw_ix_nI (by decide) (by decide)]
      simp only [Option.map_some, Option.bind_some]
      rw [pg_S_1, pw_ob_of kS_sh]
      simp only [Option.map_some, Option.bind_some]
      rw [show (pw_sR (pw_dn1 μ (b + 2) k (5 - k)) (b + 2) 5 (some (sl.getD k 0))).1 (b + 1) 1 = nI cnt from (congrFun (congrFun u1 (b + 1)) 1).trans h2, hn, nI_pred, pp_S_1, pw_ob_of kS_sh]
      rfl
  · have g9 : ∀ j, j < 6 → ((List.range 6).map (fun j => if j < k then sl.getD j 0 else if j < 5 then sl.getD (j + 1) 0 else sl.getD k 0))[j]? = some (if j < k then sl.getD j 0 else if j < 5 then sl.getD (j + 1) 0 else sl.getD k 0) := fun j hj => by
      rw [List.getElem?_map, List.getElem?_range hj]
      rfl
    have r1 : ∀ j, (pw_sI (pw_sR (pw_dn1 μ (b + 2) k (5 - k)) (b + 2) 5 (some (sl.getD k 0))) (b + 1) 1 (nI n)).2.2 (b + 1) j = μ.2.2 (b + 1) j := fun j => by
      rw [pw_sI_R, pw_sR_off (by omega), u3 _ (by omega)]
    have i1 : ∀ j, (pw_sI (pw_sR (pw_dn1 μ (b + 2) k (5 - k)) (b + 2) 5 (some (sl.getD k 0))) (b + 1) 1 (nI n)).1 (b + 1) j = if j = 1 then nI n else μ.1 (b + 1) j := fun j => by
      rw [pw_sI_I]
      by_cases hj : j = 1
      · rw [if_pos ⟨rfl, hj⟩, if_pos hj]
      · rw [if_neg (fun hc => hj hc.2), if_neg hj]
        exact congrFun (congrFun u1 _) _
    refine ⟨(r1 0).trans h1, ?_, ?_, ?_, by rw [List.length_map, List.length_range], by omega, fun e => ?_, fun j hj => ?_, fun g hgm => ?_⟩
    · rw [i1, if_pos rfl, hn]
      rfl
    · rw [r1, h3]
      cases act with
      | false => rfl
      | true =>
        have h0 := ha rfl
        rw [if_pos rfl, if_pos rfl, g9 _ (by omega), if_neg (by omega), if_pos (by omega), show cnt - 1 - 1 + 1 = cnt - 1 by omega]
        exact (kS_getD hS (i := cnt - 1) (by omega)).1
    · rw [i1, if_neg (by decide)]; exact h4
    · have := ha e
      omega
    · rw [g9 j hj]
      show (if b + 2 = b + 2 ∧ j = 5 then some (sl.getD k 0) else (pw_dn1 μ (b + 2) k (5 - k)).2.2 (b + 2) j) = _
      by_cases hj5 : j = 5
      · rw [if_pos ⟨rfl, hj5⟩, if_neg (by omega), if_neg (by omega)]
      · rw [if_neg (fun hc => hj5 hc.2), u4]
        by_cases hjk : j < k
        · rw [if_neg (by omega), if_pos hjk, row j hj]
        · rw [if_pos (by omega), if_neg hjk, if_pos (by omega), row _ (by omega)]
    · obtain ⟨j, hj, rfl⟩ := List.mem_map.mp hgm
      have hj6 := List.mem_range.mp hj
      split
      · exact hB _ hj6
      · split
        · exact hB _ (by omega)
        · exact hB _ (by omega)
  · unfold List.getD
    rw [List.getElem?_map, List.getElem?_range hj]
    rfl
  · refine ⟨?_, ?_, ?_⟩
    · rw [pw_sI_off (by omega)]
      exact congrFun u1 a
    · exact congrFun u2 a
    · exact (pw_sR_off (by omega)).trans (u3 a (by omega))
end
