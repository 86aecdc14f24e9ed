/-! ===== the two directories are one ===== -/
def dR (nm : Nat → Nat) (n : Nat) (E : qE) (D : List (Nat × Nat × Nat)) : Prop := n = D.length ∧ (∀ j, j < n → 1 ≤ (E j).2.1 ∧ (E j).2.1 ≤ 4 ∧ (E j).1 < 2 ^ (8 * (E j).2.1)) ∧ (∀ e ∈ D, ∃ j, j < n ∧ pn_rank (E j).2.1 (E j).1 = e.1 ∧ (E j).2.2.1 = nm e.2.1 ∧ (E j).2.2.2 = e.2.2) ∧ (∀ j, j < n → ∃ e ∈ D, pn_rank (E j).2.1 (E j).1 = e.1 ∧ (E j).2.2.1 = nm e.2.1 ∧ (E j).2.2.2 = e.2.2) ∧ ∀ i j, i < n → j < n → pn_rank (E i).2.1 (E i).1 = pn_rank (E j).2.1 (E j).1 → i = j
theorem pe_len_some {α : Type} {x : Nat} {q : α} {D : List (Nat × α)} (h : pe_find x D = some q) (a : α) : (pe_en x a false D).length = D.length ∧ (pe_en x a true D).length + 1 = D.length := by
  have hl := congrArg List.length (pe_LR x D)
  rw [List.length_append] at hl
  unfold pe_find at h
  unfold pe_en pe_B
  cases hR : pe_R x D with
  | nil => rw [hR] at h; cases h
  | cons e t =>
    rw [hR] at h hl
    rw [List.length_cons] at hl
    dsimp only at h ⊢
    split at h
    · next c =>
      rw [if_pos c]
      simp
      omega
    · cases h
theorem pe_len_none {α : Type} {x : Nat} {D : List (Nat × α)} (h : pe_find x D = none) (a : α) : (pe_en x a false D).length = D.length + 1 ∧ (pe_en x a true D).length = D.length := by
  have hl := congrArg List.length (pe_LR x D)
  rw [List.length_append] at hl
  unfold pe_find at h
  unfold pe_en pe_B
  cases hR : pe_R x D with
  | nil =>
    rw [hR, List.length_nil] at hl
    simp
    omega
  | cons e t =>
    rw [hR] at h hl
    rw [List.length_cons] at hl
    dsimp only at h ⊢
    split at h
    · cases h
    · next c =>
      rw [if_neg c]
      simp
      omega
theorem pe_find_none {α : Type} {x : Nat} {D : List (Nat × α)} (hs : dS D) (h : pe_find x D = none) {e : Nat × α} (he : e ∈ D) : e.1 ≠ x := fun hc => by
  have := pe_find_of (x := x) (q := e.2) hs (by rw [← hc]; exact he)
  rw [h] at this
  cases this
section
variable {nm nm' : Nat → Nat} {n : Nat} {E : qE} {D : List (Nat × Nat × Nat)}
theorem dR.inj (h : dR nm n E D) : mInj n E := fun i j hi hj e1 e2 => h.2.2.2.2 i j hi hj (by rw [e1, e2])
/-- the entry of a key -/
theorem dR.find (h : dR nm n E D) {x k : Nat} {q : Nat × Nat} (h1 : 1 ≤ k) (h4 : k ≤ 4) (hq : pe_find (pn_rank k x) D = some q) : ∃ j, j < n ∧ (E j).1 = x ∧ (E j).2.1 = k ∧ (E j).2.2.1 = nm q.1 ∧ (E j).2.2.2 = q.2 := by
  obtain ⟨r1, r2, r3, r4, r5⟩ := h
  obtain ⟨j, hj, a1, a2, a3⟩ := r3 _ (pe_find_in hq)
  obtain ⟨b1, b2, b3⟩ := r2 j hj
  obtain ⟨c1, c2⟩ := (pn_rank_inj (by omega) (by omega)).mp a1
  exact ⟨j, hj, c2, c1, a2, a3⟩
theorem dR.nope (h : dR nm n E D) (hs : dS D) {x k : Nat} (hq : pe_find (pn_rank k x) D = none) : ∀ j, j < n → ¬ ((E j).1 = x ∧ (E j).2.1 = k) := fun j hj hc => by
  obtain ⟨e, he, a1, -⟩ := h.2.2.2.1 j hj
  exact pe_find_none hs hq he (by rw [← a1, hc.1, hc.2])
theorem dR.set_at (h : dR nm n E D) (hs : dS D) {x k f i j : Nat} {q : Nat × Nat} (hq : pe_find (pn_rank k x) D = some q) (hj : j < n) (e1 : (E j).1 = x) (e2 : (E j).2.1 = k) : dR nm n (eu E j (x, k, nm f, i)) (pe_en (pn_rank k x) (f, i) false D) := by
  obtain ⟨r1, r2, r3, r4, r5⟩ := h
  have rk : ∀ m, pn_rank (eu E j (x, k, nm f, i) m).2.1 (eu E j (x, k, nm f, i) m).1 = pn_rank (E m).2.1 (E m).1 := fun m => by
    by_cases c : m = j
    · rw [c, eu_at, e1, e2]
    · rw [eu_ne c]
  refine ⟨by rw [(pe_len_some hq _).1]; exact r1, fun m hm => ?_, fun e he => ?_, fun m hm => ?_, fun a c ha hc he => r5 a c ha hc (by rw [rk, rk] at he; exact he)⟩
  · by_cases c : m = j
    · rw [c, eu_at]
      have := r2 j hj
      rw [e1, e2] at this
      exact this
    · rw [eu_ne c]
      exact r2 m hm
  · rcases (pe_en_mem hs).mp he with ⟨h1, h2⟩ | ⟨-, rfl⟩
    · obtain ⟨m, hm, a1, a2, a3⟩ := r3 e h1
      have c : m ≠ j := fun hc => h2 (by rw [← a1, hc, e1, e2])
      exact ⟨m, hm, by rw [rk]; exact a1, by rw [eu_ne c]; exact a2, by rw [eu_ne c]; exact a3⟩
    · exact ⟨j, hj, by rw [eu_at], by rw [eu_at], by rw [eu_at]⟩
  · by_cases c : m = j
    · refine ⟨(pn_rank k x, f, i), (pe_en_mem hs).mpr (Or.inr ⟨rfl, rfl⟩), ?_⟩
      rw [c, eu_at]
      exact ⟨rfl, rfl, rfl⟩
    · obtain ⟨e, he, a1, a2, a3⟩ := r4 m hm
      refine ⟨e, (pe_en_mem hs).mpr (Or.inl ⟨he, fun hc => c (r5 m j hm hj ?_)⟩), ?_⟩
      · rw [a1, hc, e1, e2]
      · rw [eu_ne c]
        exact ⟨a1, a2, a3⟩
theorem dR.set_new (h : dR nm n E D) (hs : dS D) {x k f i : Nat} (h1 : 1 ≤ k) (h4 : k ≤ 4) (hx : x < 2 ^ (8 * k)) (hq : pe_find (pn_rank k x) D = none) : dR nm (n + 1) (eu E n (x, k, nm f, i)) (pe_en (pn_rank k x) (f, i) false D) := by
  have hno := h.nope hs hq
  obtain ⟨r1, r2, r3, r4, r5⟩ := h
  refine ⟨by rw [(pe_len_none hq _).1, r1], fun m hm => ?_, fun e he => ?_, fun m hm => ?_, fun a c ha hc he => ?_⟩
  · by_cases c : m = n
    · rw [c, eu_at]
      exact ⟨h1, h4, hx⟩
    · rw [eu_ne c]
      exact r2 m (by omega)
  · rcases (pe_en_mem hs).mp he with ⟨h1, h2⟩ | ⟨-, rfl⟩
    · obtain ⟨m, hm, a1, a2, a3⟩ := r3 e h1
      have c : m ≠ n := by omega
      exact ⟨m, by omega, by rw [eu_ne c]; exact a1, by rw [eu_ne c]; exact a2, by rw [eu_ne c]; exact a3⟩
    · exact ⟨n, Nat.lt_succ_self n, by rw [eu_at], by rw [eu_at], by rw [eu_at]⟩
  · by_cases c : m = n
    · refine ⟨(pn_rank k x, f, i), (pe_en_mem hs).mpr (Or.inr ⟨rfl, rfl⟩), ?_⟩
      rw [c, eu_at]
      exact ⟨rfl, rfl, rfl⟩
    · obtain ⟨e, he, a1, a2, a3⟩ := r4 m (by omega)
      refine ⟨e, (pe_en_mem hs).mpr (Or.inl ⟨he, pe_find_none hs hq he⟩), ?_⟩
      rw [eu_ne c]
      exact ⟨a1, a2, a3⟩
  · have key : ∀ m, m < n → pn_rank (E m).2.1 (E m).1 ≠ pn_rank k x := fun m hm hc => by
      obtain ⟨b1, b2, b3⟩ := r2 m hm
      obtain ⟨c1, c2⟩ := (pn_rank_inj (by omega) (by omega)).mp hc
      exact hno m hm ⟨c2, c1⟩
    by_cases ca : a = n <;> by_cases cc : c = n
    · omega
    · rw [ca, eu_at, eu_ne cc] at he
      exact absurd he.symm (key c (by omega))
    · rw [cc, eu_at, eu_ne ca] at he
      exact absurd he (key a (by omega))
    · rw [eu_ne ca, eu_ne cc] at he
      exact r5 a c (by omega) (by omega) he
theorem dR.unset_at (h : dR nm (n + 1) E D) (hs : dS D) {x k j : Nat} {q c : Nat × Nat} (hq : pe_find (pn_rank k x) D = some q) (hj : j < n + 1) (e1 : (E j).1 = x) (e2 : (E j).2.1 = k) : dR nm n (eu E j (E n)) (pe_en (pn_rank k x) c true D) := by
  obtain ⟨r1, r2, r3, r4, r5⟩ := h
  have hl := (pe_len_some hq c).2
  -- where an index goes
  have at' : ∀ m, m < n → ∃ m', m' < n + 1 ∧ m' ≠ j ∧ eu E j (E n) m = E m' ∧ (m' = m ∨ (m = j ∧ m' = n)) := fun m hm => by
    by_cases cj : m = j
    · refine ⟨n, Nat.lt_succ_self n, by omega, by rw [cj, eu_at], Or.inr ⟨cj, rfl⟩⟩
    · exact ⟨m, by omega, cj, eu_ne cj, Or.inl rfl⟩
  refine ⟨by omega, fun m hm => ?_, fun e he => ?_, fun m hm => ?_, fun a c' ha hc' he => ?_⟩
  · obtain ⟨m', h1, h2, h3, -⟩ := at' m hm
    rw [h3]
    exact r2 m' h1
  · rcases (pe_en_mem hs).mp he with ⟨h1, h2⟩ | ⟨h0, -⟩
    · obtain ⟨m, hm, a1, a2, a3⟩ := r3 e h1
      have cj : m ≠ j := fun hc => h2 (by rw [← a1, hc, e1, e2])
      by_cases cn : m = n
      · refine ⟨j, by omega, ?_⟩
        rw [eu_at, ← cn]
        exact ⟨a1, a2, a3⟩
      · refine ⟨m, by omega, ?_⟩
        rw [eu_ne cj]
        exact ⟨a1, a2, a3⟩
    · cases h0
  · obtain ⟨m', h1, h2, h3, -⟩ := at' m hm
    obtain ⟨e, he, a1, a2, a3⟩ := r4 m' h1
    refine ⟨e, (pe_en_mem hs).mpr (Or.inl ⟨he, fun hc => h2 (r5 m' j h1 hj ?_)⟩), ?_⟩
    · rw [a1, hc, e1, e2]
    · rw [h3]
      exact ⟨a1, a2, a3⟩
  · obtain ⟨a', a1, a2, a3, a4⟩ := at' a ha
    obtain ⟨d', d1, d2, d3, d4⟩ := at' c' hc'
    rw [a3, d3] at he
    have := r5 a' d' a1 d1 he
    omega
theorem dR.unset_no (h : dR nm n E D) (hs : dS D) {x k : Nat} {c : Nat × Nat} (hq : pe_find (pn_rank k x) D = none) : dR nm n E (pe_en (pn_rank k x) c true D) := by
  obtain ⟨r1, r2, r3, r4, r5⟩ := h
  refine ⟨by rw [(pe_len_none hq c).2]; exact r1, r2, fun e he => ?_, fun m hm => ?_, r5⟩
  · rcases (pe_en_mem hs).mp he with ⟨h1, -⟩ | ⟨h0, -⟩
    · exact r3 e h1
    · cases h0
  · obtain ⟨e, he, a⟩ := r4 m hm
    exact ⟨e, (pe_en_mem hs).mpr (Or.inl ⟨he, pe_find_none hs hq he⟩), a⟩
theorem dR.renm (h : dR nm n E D) (hn : ∀ e ∈ D, nm' e.2.1 = nm e.2.1) : dR nm' n E D := by
  obtain ⟨r1, r2, r3, r4, r5⟩ := h
  refine ⟨r1, r2, fun e he => ?_, fun j hj => ?_, r5⟩
  · obtain ⟨j, hj, a1, a2, a3⟩ := r3 e he
    exact ⟨j, hj, a1, by rw [hn e he]; exact a2, a3⟩
  · obtain ⟨e, he, a1, a2, a3⟩ := r4 j hj
    exact ⟨e, he, a1, by rw [hn e he]; exact a2, a3⟩
end
