/-! ===== a merge's steps, as lists ===== -/
abbrev qM : Type := (Nat → qf) × Nat × Nat × Nat × (Nat → Nat → Nat × Nat)
def su (src : Nat → Nat → Nat × Nat) (o j : Nat) (q : Nat × Nat) : Nat → Nat → Nat × Nat := fun o' j' => if o' = o ∧ j' = j then q else src o' j'
/-- the record that the merge has come to -/
def pk_r (φ : Nat → qf) (sl : List Nat) (af ar : Nat) : qr := (φ (sl.getD af 0)).2.2.2.2.getD ar (0, 0, 0, 0)
/-- an empty output -/
def qf0 : qf := (0, [], 0, [], [])
/-- a record is copied -/
def pk_cp (sl ou : List Nat) (M : qM) : qM :=
  if 0 < M.2.1 ∧ (M.1 (ou.getD (M.2.1 - 1) 0)).2.1.length + pn_len (pk_r M.1 sl M.2.2.1 M.2.2.2.1).2.1 (pk_r M.1 sl M.2.2.1 M.2.2.2.1).2.2.2 ≤ 100 then
    (pu M.1 (ou.getD (M.2.1 - 1) 0) (pt_cp (M.1 (ou.getD (M.2.1 - 1) 0)) (M.1 (sl.getD M.2.2.1 0)) (pk_r M.1 sl M.2.2.1 M.2.2.2.1)), M.2.1, M.2.2.1, M.2.2.2.1 + 1, su M.2.2.2.2 (M.2.1 - 1) (M.1 (ou.getD (M.2.1 - 1) 0)).2.2.2.2.length (sl.getD M.2.2.1 0, M.2.2.2.1))
  else
    (pu M.1 (ou.getD M.2.1 0) (pt_cp qf0 (M.1 (sl.getD M.2.2.1 0)) (pk_r M.1 sl M.2.2.1 M.2.2.2.1)), M.2.1 + 1, M.2.2.1, M.2.2.2.1 + 1, su M.2.2.2.2 M.2.1 0 (sl.getD M.2.2.1 0, M.2.2.2.1))
/-- a step -/
def pk_step (sl ou : List Nat) (D : List (Nat × Nat × Nat)) (M : qM) : qM :=
  if pe_find (pn_rank (pk_r M.1 sl M.2.2.1 M.2.2.2.1).2.1 (pk_r M.1 sl M.2.2.1 M.2.2.2.1).2.2.1) D = some (sl.getD M.2.2.1 0, M.2.2.2.1) then pk_cp sl ou M
  else (M.1, M.2.1, M.2.2.1, M.2.2.2.1 + 1, M.2.2.2.2)
def pk_skM (sl : List Nat) (taken : Nat) (M : qM) : qM := (M.1, M.2.1, (pk_sk (pk_cs M.1 sl) (taken - M.2.2.1) M.2.2.1 M.2.2.2.1).1, (pk_sk (pk_cs M.1 sl) (taken - M.2.2.1) M.2.2.1 M.2.2.2.1).2, M.2.2.2.2)
def pk_adv (sl ou : List Nat) (D : List (Nat × Nat × Nat)) (taken : Nat) : Nat → qM → qM
  | 0, M => pk_skM sl taken M
  | n + 1, M => if (pk_skM sl taken M).2.2.1 < taken then pk_adv sl ou D taken n (pk_step sl ou D (pk_skM sl taken M)) else pk_skM sl taken M
/-- the length of records -/
def pn_tot : List qr → Nat
  | [] => 0
  | r :: t => pn_len r.2.1 r.2.2.2 + pn_tot t
theorem pn_tot_app : ∀ l m, pn_tot (l ++ m) = pn_tot l + pn_tot m
  | [], m => (Nat.zero_add _).symm
  | r :: t, m => by rw [List.cons_append, pn_tot, pn_tot, pn_tot_app t m, Nat.add_assoc]
theorem qCh.tot : ∀ {p : Nat} {rs : List qr} {e : Nat}, qCh p rs e → e = p + pn_tot rs
  | p, [], e, h => h.symm
  | p, r :: t, e, h => by rw [pn_tot, h.2.tot, Nat.add_assoc]
theorem qCh.place : ∀ {p : Nat} {rs : List qr} {e : Nat}, qCh p rs e → ∀ {n : Nat} {r : qr}, rs[n]? = some r → r.1 = p + pn_tot (rs.take n)
  | p, q :: t, e, h, n, r, hr => by
    cases n with
    | zero => cases hr; rw [h.1]; rfl
    | succ n =>
      rw [h.2.place (n := n) hr, List.take_succ_cons, pn_tot, Nat.add_assoc]
theorem pn_tot_take (rs : List qr) (n : Nat) : pn_tot (rs.take n) ≤ pn_tot rs := by
  have := pn_tot_app (rs.take n) (rs.drop n)
  rw [List.take_append_drop] at this
  omega
theorem pn_tot_succ {rs : List qr} {n : Nat} {r : qr} (h : rs[n]? = some r) : pn_tot (rs.take (n + 1)) = pn_tot (rs.take n) + pn_len r.2.1 r.2.2.2 := by
  rw [List.take_add_one, h, pn_tot_app]
  show _ + (pn_len r.2.1 r.2.2.2 + 0) = _
  omega
theorem qCh.fits {rs : List qr} {e n : Nat} {r : qr} (h : qCh 0 rs e) (hr : rs[n]? = some r) : r.1 + pn_len r.2.1 r.2.2.2 ≤ e := by
  have h1 := h.place hr
  have h2 := h.tot
  have h3 := pn_tot_take rs (n + 1)
  rw [pn_tot_succ hr] at h3
  omega
/-- before where the merge stands -/
def pk_bf (i j af ar : Nat) : Prop := i < af ∨ (i = af ∧ j < ar)
/-- the invariant of a merge -/
def mI (b : Nat) (sl ou : List Nat) (D : List (Nat × Nat × Nat)) (taken : Nat) (M : qM) : Prop :=
  (∀ f, isB b f → qV (M.1 f) ∧ (M.1 f).2.1.length ≤ 100) ∧ (∀ i, i < taken → qCh 0 (M.1 (sl.getD i 0)).2.2.2.2 (M.1 (sl.getD i 0)).2.1.length) ∧
  (∀ o, o < M.2.1 → qCh 0 (M.1 (ou.getD o 0)).2.2.2.2 (M.1 (ou.getD o 0)).2.1.length ∧ (M.1 (ou.getD o 0)).2.2.2.1 = []) ∧
  M.2.2.1 ≤ taken ∧ M.2.1 ≤ taken ∧ M.2.1 ≤ M.2.2.1 + 1 ∧ (M.2.1 = M.2.2.1 + 1 → (M.1 (ou.getD (M.2.1 - 1) 0)).2.1.length ≤ pn_tot ((M.1 (sl.getD M.2.2.1 0)).2.2.2.2.take M.2.2.2.1)) ∧
  (∀ o j, o < M.2.1 → j < (M.1 (ou.getD o 0)).2.2.2.2.length → ∃ i, i < taken ∧ (M.2.2.2.2 o j).1 = sl.getD i 0 ∧ pk_bf i (M.2.2.2.2 o j).2 M.2.2.1 M.2.2.2.1 ∧ ∃ r r', (M.1 (sl.getD i 0)).2.2.2.2[(M.2.2.2.2 o j).2]? = some r ∧ (M.1 (ou.getD o 0)).2.2.2.2[j]? = some r' ∧ r'.2 = r.2) ∧
  (∀ e ∈ D, ∀ i, i < taken → e.2.1 = sl.getD i 0 → pk_bf i e.2.2 M.2.2.1 M.2.2.2.1 → ∃ o j, o < M.2.1 ∧ j < (M.1 (ou.getD o 0)).2.2.2.2.length ∧ M.2.2.2.2 o j = e.2) ∧
  (∀ o j o' j', o < M.2.1 → j < (M.1 (ou.getD o 0)).2.2.2.2.length → o' < M.2.1 → j' < (M.1 (ou.getD o' 0)).2.2.2.2.length → M.2.2.2.2 o j = M.2.2.2.2 o' j' → o = o' ∧ j = j')
/-- the places of files are apart -/
def pk_ap (sl ou : List Nat) : Prop := sl.length = 6 ∧ ou.length = 6 ∧ (∀ i j, i < 6 → j < 6 → sl.getD i 0 = sl.getD j 0 → i = j) ∧ (∀ i j, i < 6 → j < 6 → ou.getD i 0 = ou.getD j 0 → i = j) ∧ ∀ i j, i < 6 → j < 6 → sl.getD i 0 ≠ ou.getD j 0
theorem pk_sk_past (cs : Nat → Nat) : ∀ n af ar i j, pk_bf i j (pk_sk cs n af ar).1 (pk_sk cs n af ar).2 → j < cs i → pk_bf i j af ar
  | 0, _, _, _, _, h, _ => h
  | n + 1, af, ar, i, j, h, hj => by
    unfold pk_sk at h
    split at h
    · exact h
    · next c =>
      have := pk_sk_past cs n (af + 1) 0 i j h hj
      unfold pk_bf at this ⊢
      by_cases e : i = af
      · subst e
        omega
      · omega
theorem pk_sk_fwd (cs : Nat → Nat) : ∀ n af ar i j, pk_bf i j af ar → pk_bf i j (pk_sk cs n af ar).1 (pk_sk cs n af ar).2
  | 0, _, _, _, _, h => h
  | n + 1, af, ar, i, j, h => by
    unfold pk_sk
    split
    · exact h
    · refine pk_sk_fwd cs n (af + 1) 0 i j ?_
      unfold pk_bf at h ⊢
      omega
theorem pk_sk_eq (cs : Nat → Nat) (n af ar : Nat) (h : (pk_sk cs n af ar).1 = af) : (pk_sk cs n af ar).2 = ar := by
  cases n with
  | zero => rfl
  | succ n =>
    unfold pk_sk at h ⊢
    split
    · rfl
    · next c =>
      rw [if_neg c] at h
      have := (pk_sk_le cs n (af + 1) 0).1
      omega
section
variable {b taken : Nat} {sl ou : List Nat} {D : List (Nat × Nat × Nat)} {M : qM}
theorem mI.skip (h : mI b sl ou D taken M) (hD : ∀ e ∈ D, e.2.2 < (M.1 e.2.1).2.2.2.2.length) : mI b sl ou D taken (pk_skM sl taken M) := by
  obtain ⟨h1, h2, h3, h4, h5, h6, h7, h8, h9, h10⟩ := h
  have hle := pk_sk_le (pk_cs M.1 sl) (taken - M.2.2.1) M.2.2.1 M.2.2.2.1
  refine ⟨h1, h2, h3, ?_, h5, ?_, fun hc => ?_, fun o j ho hj => ?_, fun e he i hi hie hlt => ?_, h10⟩
  · show (pk_sk (pk_cs M.1 sl) (taken - M.2.2.1) M.2.2.1 M.2.2.2.1).1 ≤ taken
    omega
  · show M.2.1 ≤ (pk_sk (pk_cs M.1 sl) (taken - M.2.2.1) M.2.2.1 M.2.2.2.1).1 + 1
    omega
  · have hc' : M.2.1 = (pk_sk (pk_cs M.1 sl) (taken - M.2.2.1) M.2.2.1 M.2.2.2.1).1 + 1 := hc
    have e1 : (pk_sk (pk_cs M.1 sl) (taken - M.2.2.1) M.2.2.1 M.2.2.2.1).1 = M.2.2.1 := by omega
    have e2 := pk_sk_eq _ _ _ _ e1
    show (M.1 (ou.getD (M.2.1 - 1) 0)).2.1.length ≤ pn_tot ((M.1 (sl.getD (pk_sk (pk_cs M.1 sl) (taken - M.2.2.1) M.2.2.1 M.2.2.2.1).1 0)).2.2.2.2.take (pk_sk (pk_cs M.1 sl) (taken - M.2.2.1) M.2.2.1 M.2.2.2.1).2)
    rw [e1, e2]
    exact h7 (by omega)
  · obtain ⟨i, a1, a2, a3, a4⟩ := h8 o j ho hj
    exact ⟨i, a1, a2, pk_sk_fwd _ _ _ _ _ _ a3, a4⟩
  · refine h9 e he i hi hie (pk_sk_past _ _ _ _ _ _ hlt ?_)
    have := hD e he
    rw [hie] at this
    exact this
theorem pk_getD {α : Type} {l : List α} {n : Nat} {d : α} (h : n < l.length) : l[n]? = some (l.getD n d) := by
  unfold List.getD
  rw [List.getElem?_eq_getElem h]
  rfl
/-- a copy keeps an output sound -/
theorem pt_cp_ch {t u : qf} {r : qr} (ht : qCh 0 t.2.2.2.2 t.2.1.length) (hr : r.1 + pn_len r.2.1 r.2.2.2 ≤ u.2.1.length) : qCh 0 (pt_cp t u r).2.2.2.2 (pt_cp t u r).2.1.length ∧ (pt_cp t u r).2.1.length = t.2.1.length + pn_len r.2.1 r.2.2.2 := by
  have hl : ((u.2.1.drop r.1).take (pn_len r.2.1 r.2.2.2)).length = pn_len r.2.1 r.2.2.2 := by rw [List.length_take, List.length_drop]; omega
  have e : (pt_cp t u r).2.1.length = t.2.1.length + pn_len r.2.1 r.2.2.2 := by
    show (t.2.1 ++ _).length = _
    rw [List.length_append, hl]
  refine ⟨?_, e⟩
  rw [e]
  exact ht.snoc (t.2.1.length, r.2.1, r.2.2.1, r.2.2.2) rfl
theorem pt_cp_V {t u : qf} {r : qr} (ht : qV t) (hu : qV u) (hr : rV r) (hl : t.2.1.length + pn_len r.2.1 r.2.2.2 ≤ 100) : qV (pt_cp t u r) := by
  obtain ⟨a1, a2, a3, a4, a5⟩ := ht
  obtain ⟨c1, c2, c3, c4, c5⟩ := hr
  refine ⟨a1.app (hu.1.dt _ _), a2, a3, ?_, fun q hq => ?_⟩
  · show t.2.2.1 ≤ (t.2.1 ++ _).length
    rw [List.length_append]
    omega
  · rcases List.mem_append.mp hq with hq | hq
    · exact a5 q hq
    · rw [List.mem_singleton.mp hq]
      exact ⟨c1, c2, c3, c4, hl⟩
/-- the invariant behind a copy to the output o -/
theorem mI.cp (h : mI b sl ou D taken M) (ap : pk_ap sl ou) (ht6 : taken ≤ 6) (hbo : ∀ o, o < 6 → isB b (ou.getD o 0)) (hbs : ∀ i, i < 6 → isB b (sl.getD i 0)) (ha : M.2.2.1 < taken) {r : qr} (hr : (M.1 (sl.getD M.2.2.1 0)).2.2.2.2[M.2.2.2.1]? = some r) (o m : Nat) (t : qf)
    (hm : m = M.2.1 ∨ m = M.2.1 + 1) (hom : o + 1 = m) (hold : m = M.2.1 → t = M.1 (ou.getD o 0)) (hnew : m = M.2.1 + 1 → t = qf0 ∧ M.2.1 ≤ M.2.2.1)
    (hV : qV t) (hch : qCh 0 t.2.2.2.2 t.2.1.length) (hH : t.2.2.2.1 = []) (hl : t.2.1.length + pn_len r.2.1 r.2.2.2 ≤ 100) (hD : ∀ e ∈ D, e.2.2 < (M.1 e.2.1).2.2.2.2.length) (hDs : ∀ e ∈ D, ∀ o', o' < 6 → e.2.1 ≠ ou.getD o' 0) :
    mI b sl ou D taken (pu M.1 (ou.getD o 0) (pt_cp t (M.1 (sl.getD M.2.2.1 0)) r), m, M.2.2.1, M.2.2.2.1 + 1, su M.2.2.2.2 o t.2.2.2.2.length (sl.getD M.2.2.1 0, M.2.2.2.1)) := by
  obtain ⟨h1, h2, h3, h4, h5, h6, h7, h8, h9, h10⟩ := h
  obtain ⟨p1, p2, p3, p4, p5⟩ := ap
  have hm6 : m ≤ taken := by
    rcases hm with e | e
    · omega
    · have := (hnew e).2; omega
  have hoB := hbo o (by omega)
  have hfit := (h2 _ ha).fits hr
  have hrV : rV r := ((h1 _ (hbs _ (by omega))).1.2.2.2.2) r (List.mem_of_getElem? hr)
  obtain ⟨cc, cl⟩ := pt_cp_ch (u := M.1 (sl.getD M.2.2.1 0)) hch hfit
  have usl : ∀ i, i < 6 → pu M.1 (ou.getD o 0) (pt_cp t (M.1 (sl.getD M.2.2.1 0)) r) (sl.getD i 0) = M.1 (sl.getD i 0) := fun i hi => pu_ne (p5 i o hi (by omega))
  have uou : ∀ o', o' < m → o' ≠ o → o' < M.2.1 ∧ pu M.1 (ou.getD o 0) (pt_cp t (M.1 (sl.getD M.2.2.1 0)) r) (ou.getD o' 0) = M.1 (ou.getD o' 0) := fun o' ho' hne => ⟨by omega, pu_ne (fun e => hne (p4 o' o (by omega) (by omega) e))⟩
  have hcnt : (pt_cp t (M.1 (sl.getD M.2.2.1 0)) r).2.2.2.2.length = t.2.2.2.2.length + 1 := by
    show (t.2.2.2.2 ++ [_]).length = _
    rw [List.length_append, List.length_singleton]
  -- sources that were there
  have old : ∀ o' j', o' < m → j' < (pu M.1 (ou.getD o 0) (pt_cp t (M.1 (sl.getD M.2.2.1 0)) r) (ou.getD o' 0)).2.2.2.2.length → ¬ (o' = o ∧ j' = t.2.2.2.2.length) → o' < M.2.1 ∧ j' < (M.1 (ou.getD o' 0)).2.2.2.2.length ∧ su M.2.2.2.2 o t.2.2.2.2.length (sl.getD M.2.2.1 0, M.2.2.2.1) o' j' = M.2.2.2.2 o' j' := by
    intro o' j' ho' hj' hne
    have e1 : su M.2.2.2.2 o t.2.2.2.2.length (sl.getD M.2.2.1 0, M.2.2.2.1) o' j' = M.2.2.2.2 o' j' := if_neg hne
    by_cases ho : o' = o
    · subst ho
      rw [pu_at, hcnt] at hj'
      rcases hm with e | e
      · have := hold e
        exact ⟨by omega, by rw [← this]; omega, e1⟩
      · have := (hnew e).1
        rw [this] at hj' hne
        have : j' < 0 + 1 := hj'
        have hne' : ¬ (o' = o' ∧ j' = 0) := hne
        omega
    · obtain ⟨u1, u2⟩ := uou o' ho' ho
      rw [u2] at hj'
      exact ⟨u1, hj', e1⟩
  have hsucc := pn_tot_succ hr
  refine ⟨fun f hf => ?_, fun i hi => ?_, fun o' ho' => ?_, h4, hm6, ?_, fun hc => ?_, fun o' j' ho' hj' => ?_, fun e he i hi hie hlt => ?_, fun o1 j1 o2 j2 a1 a2 a3 a4 a5 => ?_⟩
  · by_cases e : f = ou.getD o 0
    · subst e
      show qV (pu _ _ _ _) ∧ (pu _ _ _ _).2.1.length ≤ 100
      rw [pu_at]
      exact ⟨pt_cp_V hV (h1 _ (hbs _ (by omega))).1 hrV hl, by rw [cl]; exact hl⟩
    · show qV (pu _ _ _ _) ∧ (pu _ _ _ _).2.1.length ≤ 100
      rw [pu_ne e]
      exact h1 f hf
  · show qCh 0 (pu _ _ _ _).2.2.2.2 (pu _ _ _ _).2.1.length
    rw [usl i (by omega)]
    exact h2 i hi
  · show qCh 0 (pu _ _ _ _).2.2.2.2 (pu _ _ _ _).2.1.length ∧ (pu _ _ _ _).2.2.2.1 = []
    by_cases e : o' = o
    · rw [e, pu_at]
      exact ⟨cc, hH⟩
    · obtain ⟨u1, u2⟩ := uou o' ho' e
      rw [u2]
      exact h3 o' u1
  · show m ≤ M.2.2.1 + 1
    rcases hm with e | e
    · omega
    · have := (hnew e).2; omega
  · have hc' : m = M.2.2.1 + 1 := hc
    show (pu _ _ _ (ou.getD (m - 1) 0)).2.1.length ≤ pn_tot ((pu _ _ _ (sl.getD M.2.2.1 0)).2.2.2.2.take (M.2.2.2.1 + 1))
    rw [usl _ (by omega), show m - 1 = o by omega, pu_at, cl, hsucc]
    rcases hm with e | e
    · have := h7 (by omega)
      rw [show M.2.1 - 1 = o by omega, ← hold e] at this
      omega
    · rw [(hnew e).1]
      show 0 + pn_len r.2.1 r.2.2.2 ≤ _
      omega
  · show ∃ i, i < taken ∧ (su _ _ _ _ o' j').1 = sl.getD i 0 ∧ pk_bf i (su _ _ _ _ o' j').2 M.2.2.1 (M.2.2.2.1 + 1) ∧ ∃ r1 r', (pu _ _ _ (sl.getD i 0)).2.2.2.2[(su _ _ _ _ o' j').2]? = some r1 ∧ (pu _ _ _ (ou.getD o' 0)).2.2.2.2[j']? = some r' ∧ r'.2 = r1.2
    by_cases hc : o' = o ∧ j' = t.2.2.2.2.length
    · have e1 : su M.2.2.2.2 o t.2.2.2.2.length (sl.getD M.2.2.1 0, M.2.2.2.1) o' j' = (sl.getD M.2.2.1 0, M.2.2.2.1) := if_pos hc
      rw [e1]
      refine ⟨M.2.2.1, ha, rfl, Or.inr ⟨rfl, Nat.lt_succ_self _⟩, r, (t.2.1.length, r.2.1, r.2.2.1, r.2.2.2), ?_, ?_, rfl⟩
      · rw [usl _ (by omega)]
        exact hr
      · rw [hc.1, hc.2, pu_at]
        show (t.2.2.2.2 ++ [_])[t.2.2.2.2.length]? = _
        rw [List.getElem?_append_right (Nat.le_refl _), Nat.sub_self]
        rfl
    · obtain ⟨u1, u2, u3⟩ := old o' j' ho' hj' hc
      obtain ⟨i, a1, a2, a3, r1, r', a4, a5, a6⟩ := h8 o' j' u1 u2
      rw [u3]
      refine ⟨i, a1, a2, ?_, r1, r', ?_, ?_, a6⟩
      · unfold pk_bf at a3 ⊢
        omega
      · rw [usl i (by omega)]
        exact a4
      · by_cases e : o' = o
        · rw [e, pu_at]
          rw [e] at a5 u2 u1
          rcases hm with e2 | e2
          · rw [← hold e2] at a5 u2
            show (t.2.2.2.2 ++ [_])[j']? = _
            rw [List.getElem?_append_left u2]
            exact a5
          · omega
        · obtain ⟨-, w2⟩ := uou o' ho' e
          rw [w2]
          exact a5
  · by_cases hc : i = M.2.2.1 ∧ e.2.2 = M.2.2.2.1
    · refine ⟨o, t.2.2.2.2.length, by show o < m; omega, ?_, ?_⟩
      · show t.2.2.2.2.length < (pu _ _ _ _).2.2.2.2.length
        rw [pu_at, hcnt]
        omega
      · show su _ _ _ _ _ _ = _
        refine (if_pos ⟨rfl, rfl⟩).trans (Prod.ext ?_ hc.2.symm)
        show sl.getD M.2.2.1 0 = e.2.1
        rw [hie, hc.1]
    · have hlt2 : pk_bf i e.2.2 M.2.2.1 M.2.2.2.1 := by
        have h9 : pk_bf i e.2.2 M.2.2.1 (M.2.2.2.1 + 1) := hlt
        unfold pk_bf at h9 ⊢
        omega
      obtain ⟨o', j', a1, a2, a3⟩ := h9 e he i hi hie hlt2
      have hne : ¬ (o' = o ∧ j' = t.2.2.2.2.length) := by
        rintro ⟨e1, e2⟩
        rcases hm with e3 | e3
        · rw [e1, ← hold e3] at a2
          omega
        · omega
      refine ⟨o', j', by show o' < m; omega, ?_, (if_neg hne).trans a3⟩
      show j' < (pu _ _ _ _).2.2.2.2.length
      by_cases e1 : o' = o
      · rw [e1, pu_at, hcnt]
        rcases hm with e3 | e3
        · rw [e1, ← hold e3] at a2
          omega
        · omega
      · rw [pu_ne (fun hx => e1 (p4 o' o (by omega) (by omega) hx))]
        exact a2
  · have key : ∀ o' j', o' < m → j' < (pu M.1 (ou.getD o 0) (pt_cp t (M.1 (sl.getD M.2.2.1 0)) r) (ou.getD o' 0)).2.2.2.2.length → ¬ (o' = o ∧ j' = t.2.2.2.2.length) → su M.2.2.2.2 o t.2.2.2.2.length (sl.getD M.2.2.1 0, M.2.2.2.1) o' j' ≠ (sl.getD M.2.2.1 0, M.2.2.2.1) := by
      intro o' j' ho' hj' hne hx
      obtain ⟨u1, u2, u3⟩ := old o' j' ho' hj' hne
      rw [u3] at hx
      obtain ⟨i, b1, b2, b3, -⟩ := h8 o' j' u1 u2
      rw [hx] at b2 b3
      have : M.2.2.1 = i := p3 _ _ (by omega) (by omega) b2
      unfold pk_bf at b3
      dsimp only at b3
      omega
    have enew : su M.2.2.2.2 o t.2.2.2.2.length (sl.getD M.2.2.1 0, M.2.2.2.1) o t.2.2.2.2.length = (sl.getD M.2.2.1 0, M.2.2.2.1) := if_pos ⟨rfl, rfl⟩
    by_cases c1 : o1 = o ∧ j1 = t.2.2.2.2.length
    · by_cases c2 : o2 = o ∧ j2 = t.2.2.2.2.length
      · exact ⟨c1.1.trans c2.1.symm, c1.2.trans c2.2.symm⟩
      · have a5' : su M.2.2.2.2 o t.2.2.2.2.length (sl.getD M.2.2.1 0, M.2.2.2.1) o1 j1 = su M.2.2.2.2 o t.2.2.2.2.length (sl.getD M.2.2.1 0, M.2.2.2.1) o2 j2 := a5
        rw [c1.1, c1.2, enew] at a5'
        exact absurd a5'.symm (key o2 j2 a3 a4 c2)
    · by_cases c2 : o2 = o ∧ j2 = t.2.2.2.2.length
      · have a5' : su M.2.2.2.2 o t.2.2.2.2.length (sl.getD M.2.2.1 0, M.2.2.2.1) o1 j1 = su M.2.2.2.2 o t.2.2.2.2.length (sl.getD M.2.2.1 0, M.2.2.2.1) o2 j2 := a5
        rw [c2.1, c2.2, enew] at a5'
        exact absurd a5' (key o1 j1 a1 a2 c1)
      · obtain ⟨u1, u2, u3⟩ := old o1 j1 a1 a2 c1
        obtain ⟨w1, w2, w3⟩ := old o2 j2 a3 a4 c2
        have a5' : su M.2.2.2.2 o t.2.2.2.2.length (sl.getD M.2.2.1 0, M.2.2.2.1) o1 j1 = su M.2.2.2.2 o t.2.2.2.2.length (sl.getD M.2.2.1 0, M.2.2.2.1) o2 j2 := a5
        rw [u3, w3] at a5'
        exact h10 o1 j1 o2 j2 u1 u2 w1 w2 a5'
end
