/-! ===== what holds between calls: a merge ===== -/
section
variable {μ μ' : pw_Mem} {s : Option Nat} {b : Nat} {φ φ' : Nat → qf} {sl sl' : List Nat} {cnt : Nat} {act : Bool} {last time : Nat} {cl : Bool} {D D' : List (Nat × Nat × Nat)} {ou ou' fs : List Nat} {made taken af ar T : Nat} {src : Nat → Nat → Nat × Nat} {M K : qM}
theorem pk_adv_lt (sl ou : List Nat) (D : List (Nat × Nat × Nat)) (T : Nat) : ∀ n M, (pk_adv sl ou D T n M).2.2.1 < T → (pk_adv sl ou D T n M).2.2.2.1 < pk_cs (pk_adv sl ou D T n M).1 sl (pk_adv sl ou D T n M).2.2.1 := by
  have sk : ∀ M : qM, (pk_skM sl T M).2.2.1 < T → (pk_skM sl T M).2.2.2.1 < pk_cs (pk_skM sl T M).1 sl (pk_skM sl T M).2.2.1 := fun M h => by
    have h' : (pk_sk (pk_cs M.1 sl) (T - M.2.2.1) M.2.2.1 M.2.2.2.1).1 < T := h
    exact pk_sk_lt (pk_cs M.1 sl) (T - M.2.2.1) M.2.2.1 M.2.2.2.1 (by omega)
  intro n
  induction n with
  | zero => exact fun M h => sk M h
  | succ n ih =>
    intro M h
    rw [pk_adv] at h ⊢
    split
    · next c => rw [if_pos c] at h; exact ih _ h
    · next c => exact sk M (by rw [if_neg c] at h; exact h)
/-- a merge has gone on -/
theorem KW.going (h : KW b φ sl cnt act last time false D ou made taken af ar src) (h6 : cnt ≤ 6) (hT : T ≤ if act then cnt - 1 else cnt) (hI : mI b sl ou D T K) (hs : ∀ i, i < 6 → K.1 (sl.getD i 0) = φ (sl.getD i 0)) (ha : K.2.2.1 < T) (hr : K.2.2.2.1 < pk_cs K.1 sl K.2.2.1) : KW b K.1 sl cnt act last time false D ou K.2.1 T K.2.2.1 K.2.2.2.1 K.2.2.2.2 := by
  obtain ⟨k1, k2, k3, k4, ⟨k5, k6, k7⟩, k8, k9, k10⟩ := h
  have hD : ∀ e ∈ D, K.1 e.2.1 = φ e.2.1 := fun e he => by
    obtain ⟨i, hi, e1⟩ := (pk_take k2.1 h6).mp (k5 e he).1
    rw [e1]
    exact hs i (by omega)
  refine ⟨fun f hf => (hI.1 f hf).1, k2, fun h => ?_, fun _ i hi => by rw [hs i (by omega)]; exact k4 rfl i hi, ⟨fun e he => ?_, fun e he r hr => ?_, k7⟩, fun i hi => ⟨by rw [hs i (by omega)]; exact (k8 i hi).1, fun j hj hn => (k8 i hi).2 j hj (by rw [hs i (by omega), hs j (by omega)] at hn; exact hn)⟩, k9, fun _ => ⟨rfl, hT, hI, ha, hr⟩⟩
  · by_cases c : cnt - 1 < 6
    · rw [hs _ c]; exact k3 h
    · omega
  · obtain ⟨c1, r, c2, c3⟩ := k5 e he
    exact ⟨c1, r, by rw [hD e he]; exact c2, c3⟩
  · rw [hD e he] at hr
    exact k6 e he r hr
/-- no entry is left where the merge has been -/
theorem Dx_cov (hI : mI b sl ou D T K) (haf : ¬ K.2.2.1 < T) (ok : dOK K.1 (sl ++ ou) D) (hs : dS D) (ap : pk_ap sl ou) (hin : ∀ o, o < 6 → ou.getD o 0 ∈ sl ++ ou) (hT : T ≤ 6) : ∀ e ∈ Dx K.1 ou K.2.2.2.2 D K.2.1, ∀ i, i < T → e.2.1 ≠ sl.getD i 0 := by
  have hm6 : K.2.1 ≤ 6 := by have := hI.2.2.2.2.1; omega
  have Dok := Dx_ok hI hin hm6 ok hs
  have hI' := hI
  obtain ⟨i1, i2, i3, i4, i5, i6, i7, i8, i9, i10⟩ := hI'
  have inner : ∀ o, o < K.2.1 → (∀ e ∈ Dx K.1 ou K.2.2.2.2 D o, ∀ i, i < T → e.2.1 = sl.getD i 0 → ∃ o' j', o' < K.2.1 ∧ j' < (K.1 (ou.getD o' 0)).2.2.2.2.length ∧ K.2.2.2.2 o' j' = e.2 ∧ (o < o' ∨ (o = o' ∧ 0 ≤ j'))) → ∀ j, j ≤ (K.1 (ou.getD o 0)).2.2.2.2.length → ∀ e ∈ pd_out (pn_rk (K.1 (ou.getD o 0))) (K.2.2.2.2 o) (ou.getD o 0) j (Dx K.1 ou K.2.2.2.2 D o), ∀ i, i < T → e.2.1 = sl.getD i 0 → ∃ o' j', o' < K.2.1 ∧ j' < (K.1 (ou.getD o' 0)).2.2.2.2.length ∧ K.2.2.2.2 o' j' = e.2 ∧ (o < o' ∨ (o = o' ∧ j ≤ j')) := by
    intro o ho h0 j
    induction j with
    | zero => intro _; exact h0
    | succ j ih =>
      intro hj e he i hi hie
      have ih' := ih (by omega)
      obtain ⟨okX, sX⟩ := pd_out_ok hI ho (hin o (by omega)) (Dok o (by omega)).1 (Dok o (by omega)).2 j (by omega)
      generalize hX : pd_out (pn_rk (K.1 (ou.getD o 0))) (K.2.2.2.2 o) (ou.getD o 0) j (Dx K.1 ou K.2.2.2.2 D o) = X at ih' okX sX
      rw [pd_out, hX] at he
      have same : e ∈ X → K.2.2.2.2 o j = e.2 → pn_rk (K.1 (ou.getD o 0)) j = e.1 := fun heX hsrc => by
        obtain ⟨i0, a1, a2, a3, r, r', a4, a5, a6⟩ := i8 o j ho (by omega)
        obtain ⟨-, q, c2, c3⟩ := okX e heX
        rw [← a2, hsrc, c2] at a4
        cases a4
        unfold pn_rk
        rw [getD_of a5, a6, c3]
      unfold pd_rep at he
      split at he
      · rcases (pe_en_mem sX).mp he with ⟨h1, h2⟩ | ⟨-, h2⟩
        · obtain ⟨o', j', c1, c2, c3, c4⟩ := ih' e h1 i hi hie
          refine ⟨o', j', c1, c2, c3, ?_⟩
          rcases c4 with c4 | ⟨c4, c5⟩
          · exact Or.inl c4
          · refine Or.inr ⟨c4, ?_⟩
            by_cases cj : j' = j
            · rw [← c4, cj] at c3
              exact absurd (same h1 c3).symm h2
            · omega
        · rw [h2] at hie
          exact absurd hie.symm (ap.2.2.2.2 i o (by omega) (by omega))
      · next hne =>
        obtain ⟨o', j', c1, c2, c3, c4⟩ := ih' e he i hi hie
        refine ⟨o', j', c1, c2, c3, ?_⟩
        rcases c4 with c4 | ⟨c4, c5⟩
        · exact Or.inl c4
        · refine Or.inr ⟨c4, ?_⟩
          by_cases cj : j' = j
          · rw [← c4, cj] at c3
            refine absurd ?_ hne
            rw [same he c3, c3]
            exact pe_find_of sX he
          · omega
  have outer : ∀ o, o ≤ K.2.1 → ∀ e ∈ Dx K.1 ou K.2.2.2.2 D o, ∀ i, i < T → e.2.1 = sl.getD i 0 → ∃ o' j', o' < K.2.1 ∧ j' < (K.1 (ou.getD o' 0)).2.2.2.2.length ∧ K.2.2.2.2 o' j' = e.2 ∧ (o < o' ∨ (o = o' ∧ 0 ≤ j')) := by
    intro o
    induction o with
    | zero =>
      intro _ e he i hi hie
      obtain ⟨o', j', c1, c2, c3⟩ := i9 e he i hi hie (Or.inl (by omega))
      exact ⟨o', j', c1, c2, c3, by omega⟩
    | succ o ih =>
      intro ho e he i hi hie
      obtain ⟨o', j', c1, c2, c3, c4⟩ := inner o (by omega) (ih (by omega)) _ (Nat.le_refl _) e he i hi hie
      refine ⟨o', j', c1, c2, c3, ?_⟩
      rcases c4 with c4 | ⟨c4, c5⟩
      · omega
      · rw [c4] at c5
        omega
  intro e he i hi hie
  obtain ⟨o', j', c1, c2, c3, c4⟩ := outer K.2.1 (Nat.le_refl _) e he i hi hie
  omega
/-- a merge is published -/
theorem KW.published (h : KW b φ sl cnt act last time false D ou made taken af ar src) (h6 : cnt ≤ 6) (h0 : act = true → 0 < cnt) (hbo : ∀ o, o < 6 → isB b (ou.getD o 0)) (hin : ∀ o, o < 6 → ou.getD o 0 ∈ sl ++ ou) (hT : T ≤ if act then cnt - 1 else cnt) (hI : mI b sl ou D T K) (hs : ∀ i, i < 6 → K.1 (sl.getD i 0) = φ (sl.getD i 0)) (ha : ¬ K.2.2.1 < T) (d1 : dOK K.1 (sl ++ ou) (Dx K.1 ou K.2.2.2.2 D K.2.1)) (d2 : dN K.1 (Dx K.1 ou K.2.2.2.2 D K.2.1)) (d3 : dS (Dx K.1 ou K.2.2.2.2 D K.2.1)) (ap' : pk_ap sl' ou') (s1 : ∀ j, j < K.2.1 → sl'.getD j 0 = ou.getD j 0) (s2 : ∀ j, K.2.1 ≤ j → j < cnt - (T - K.2.1) → sl'.getD j 0 = sl.getD (j + (T - K.2.1)) 0) :
    KW b (φx K.1 sl ou K.2.1) sl' (cnt - (T - K.2.1)) act last time false (Dx K.1 ou K.2.2.2.2 D K.2.1) ou' K.2.1 0 K.2.2.1 K.2.2.2.1 K.2.2.2.2 := by
  obtain ⟨k1, k2, k3, k4, ⟨k5, k6, k7⟩, k8, k9, k10⟩ := h
  have hmt : K.2.1 ≤ T := hI.2.2.2.2.1
  have hTc : T ≤ cnt := by split at hT <;> omega
  have hm6 : K.2.1 ≤ 6 := by omega
  obtain ⟨fx1, fx2⟩ := φx_at (φ := K.1) k2 K.2.1 hm6
  have hfsl : ∀ i, i < 6 → φx K.1 sl ou K.2.1 (sl.getD i 0) = φ (sl.getD i 0) := fun i hi => by
    rw [fx1 _ (fun o ho => k2.2.2.2.2 i o hi (by omega)), hs i hi]
  have hD0 : ∀ e ∈ D, K.1 e.2.1 = φ e.2.1 := fun e he => by
    obtain ⟨i, hi, e1⟩ := (pk_take k2.1 h6).mp (k5 e he).1
    rw [e1]
    exact hs i (by omega)
  have ok0 : dOK K.1 (sl ++ ou) D := fun e he => by
    obtain ⟨c1, r, c2, c3⟩ := k5 e he
    exact ⟨List.mem_append_left _ (List.mem_of_mem_take c1), r, by rw [hD0 e he]; exact c2, c3⟩
  have hDs : ∀ e ∈ D, ∃ i, i < cnt ∧ e.2.1 = sl.getD i 0 := fun e he => (pk_take k2.1 h6).mp (k5 e he).1
  have cov := Dx_cov hI ha ok0 k7 k2 hin (by omega)
  have inn := Dx_in hI hin hm6 ok0 k7 hDs K.2.1 (Nat.le_refl _)
  -- a place on the new shelf
  have place : ∀ j, j < cnt - (T - K.2.1) → (∃ o, o < K.2.1 ∧ j = o ∧ φx K.1 sl ou K.2.1 (sl'.getD j 0) = pt_pub (K.1 (ou.getD o 0)) (φ (sl.getD o 0)).1) ∨ (K.2.1 ≤ j ∧ φx K.1 sl ou K.2.1 (sl'.getD j 0) = φ (sl.getD (j + (T - K.2.1)) 0)) := fun j hj => by
    by_cases c : j < K.2.1
    · left
      refine ⟨j, c, rfl, ?_⟩
      rw [s1 j c, fx2 j c, hs j (by omega)]
    · right
      refine ⟨by omega, ?_⟩
      rw [s2 j (by omega) hj, hfsl _ (by omega)]
  have num : ∀ j, j < cnt - (T - K.2.1) → (φx K.1 sl ou K.2.1 (sl'.getD j 0)).1 = (φ (sl.getD (if j < K.2.1 then j else j + (T - K.2.1)) 0)).1 := fun j hj => by
    rcases place j hj with ⟨o, ho, rfl, e⟩ | ⟨ho, e⟩
    · rw [e, if_pos ho]
      rfl
    · rw [e, if_neg (by omega)]
  refine ⟨fun f hf => ?_, ap', fun h => ?_, fun _ j hj => ?_, ⟨fun e he => ?_, fun e he r hr => d2 e he r (by rw [(φx_rs _ _).1] at hr; exact hr), d3⟩, fun i hi => ⟨?_, fun j hj hn => ?_⟩, k9, fun h => absurd h (Nat.lt_irrefl 0)⟩
  · by_cases c : ∃ o, o < K.2.1 ∧ f = ou.getD o 0
    · obtain ⟨o, ho, rfl⟩ := c
      rw [fx2 o ho]
      exact pt_pub_V (hI.1 _ hf).1 (hI.2.2.1 o ho).1 (hI.1 _ hf).2
    · rw [fx1 f (fun o ho hc => c ⟨o, ho, hc⟩)]
      exact (hI.1 f hf).1
  · rw [if_pos h] at hT
    have := h0 h
    rw [num _ (by omega), if_neg (by omega), show cnt - (T - K.2.1) - 1 + (T - K.2.1) = cnt - 1 by omega]
    exact k3 h
  · rcases place j hj with ⟨o, ho, rfl, e⟩ | ⟨ho, e⟩
    · rw [e]
      exact (hI.2.2.1 j ho).1
    · rw [e]
      exact k4 rfl _ (by omega)
  · obtain ⟨c1, r, c2, c3⟩ := d1 e he
    refine ⟨(pk_take ap'.1 (by omega)).mpr ?_, r, by rw [(φx_rs _ _).1]; exact c2, c3⟩
    rcases inn e he with ⟨i, hi, e1⟩ | ⟨o, ho, e1⟩
    · have hiT : ¬ i < T := fun hc => cov e he i hc e1
      refine ⟨i - (T - K.2.1), by omega, ?_⟩
      rw [e1, s2 _ (by omega) (by omega), Nat.sub_add_cancel (by omega)]
    · exact ⟨o, by omega, by rw [e1, s1 o ho]⟩
  · rw [num i hi]
    exact (k8 _ (by split <;> omega)).1
  · rw [num i hi, num j hj] at hn
    have := (k8 (if i < K.2.1 then i else i + (T - K.2.1)) (by split <;> omega)).2 (if j < K.2.1 then j else j + (T - K.2.1)) (by split <;> omega) hn
    split at this <;> split at this <;> omega
end
