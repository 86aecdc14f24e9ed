/-! ===== a merge's steps, on ===== -/
/-- the directory is in order -/
def dS {α : Type} (D : List (Nat × α)) : Prop := D.Pairwise (fun a c => a.1 < c.1)
theorem pe_find_in {α : Type} {x : Nat} {q : α} {D : List (Nat × α)} (h : pe_find x D = some q) : (x, q) ∈ D := by
  unfold pe_find at h
  cases hR : pe_R x D with
  | nil => rw [hR] at h; cases h
  | cons e t =>
    rw [hR] at h
    dsimp only at h
    split at h
    · next c =>
      cases h
      rw [← pe_LR x D, hR, ← c]
      exact List.mem_append_right _ List.mem_cons_self
    · cases h
theorem pe_find_of {α : Type} {x : Nat} {q : α} : ∀ {D : List (Nat × α)}, dS D → (x, q) ∈ D → pe_find x D = some q
  | [], _, h => by cases h
  | e :: t, hs, h => by
    have hs' := List.pairwise_cons.mp hs
    unfold pe_find pe_R
    rw [List.dropWhile_cons]
    rcases List.mem_cons.mp h with rfl | h
    · rw [if_neg (by simp)]
      exact if_pos rfl
    · have := hs'.1 _ h
      rw [if_pos (decide_eq_true this)]
      exact pe_find_of hs'.2 h
theorem pe_find_iff {α : Type} {x : Nat} {q : α} {D : List (Nat × α)} (hs : dS D) : pe_find x D = some q ↔ (x, q) ∈ D := ⟨pe_find_in, pe_find_of hs⟩
section
variable {b taken : Nat} {sl ou fs : List Nat} {D : List (Nat × Nat × Nat)} {M : qM}
theorem pk_r_at (h : M.2.2.2.1 < pk_cs M.1 sl M.2.2.1) : (M.1 (sl.getD M.2.2.1 0)).2.2.2.2[M.2.2.2.1]? = some (pk_r M.1 sl M.2.2.1 M.2.2.2.1) := pk_getD h
theorem mI.step (h : mI b sl ou D taken M) (ap : pk_ap sl ou) (ht6 : taken ≤ 6) (hbo : ∀ o, o < 6 → isB b (ou.getD o 0)) (hbs : ∀ i, i < 6 → isB b (sl.getD i 0)) (ha : M.2.2.1 < taken) (hr : M.2.2.2.1 < pk_cs M.1 sl M.2.2.1) (hs : dS D) (ok : dOK M.1 fs D) (hDs : ∀ e ∈ D, ∀ o', o' < 6 → e.2.1 ≠ ou.getD o' 0) :
    mI b sl ou D taken (pk_step sl ou D M) ∧ (∀ i, i < 6 → (pk_step sl ou D M).1 (sl.getD i 0) = M.1 (sl.getD i 0)) := by
  have hrat := pk_r_at hr
  have hD : ∀ e ∈ D, e.2.2 < (M.1 e.2.1).2.2.2.2.length := fun e he => by
    obtain ⟨-, r, c2, -⟩ := ok e he
    exact (List.getElem?_eq_some_iff.mp c2).1
  have h' := h
  obtain ⟨h1, h2, h3, h4, h5, h6, h7, h8, h9, h10⟩ := h'
  have hfit := (h2 _ ha).fits hrat
  have hplace := (h2 _ ha).place hrat
  have h100 := (h1 _ (hbs M.2.2.1 (by omega))).2
  have hrV : rV (pk_r M.1 sl M.2.2.1 M.2.2.2.1) := ((h1 _ (hbs _ (by omega))).1.2.2.2.2) _ (List.mem_of_getElem? hrat)
  unfold pk_step
  split
  · next hl =>
    unfold pk_cp
    split
    · next hf =>
      obtain ⟨c1, c2⟩ := h3 (M.2.1 - 1) (by omega)
      refine ⟨h.cp ap ht6 hbo hbs ha hrat (M.2.1 - 1) M.2.1 _ (Or.inl rfl) (by omega) (fun _ => rfl) (fun hc => by omega) (h1 _ (hbo _ (by omega))).1 c1 c2 hf.2 hD hDs, fun i hi => pu_ne (ap.2.2.2.2 i _ hi (by omega))⟩
    · next hf =>
      have hle : M.2.1 ≤ M.2.2.1 := by
        apply Classical.byContradiction
        intro hc
        have e : M.2.1 = M.2.2.1 + 1 := by omega
        have := h7 e
        refine hf ⟨by omega, ?_⟩
        omega
      have hlen := pn_len_le hrV.2.1 hrV.2.2.2.1
      refine ⟨h.cp ap ht6 hbo hbs ha hrat M.2.1 (M.2.1 + 1) qf0 (Or.inr rfl) rfl (fun hc => by omega) (fun _ => ⟨rfl, hle⟩) ⟨fun _ h => (nomatch h), fun _ h => (nomatch h), Or.inl rfl, Nat.le_refl _, fun _ h => (nomatch h)⟩ rfl rfl (by show 0 + _ ≤ 100; omega) hD hDs, fun i hi => pu_ne (ap.2.2.2.2 i _ hi (by omega))⟩
  · next hl =>
    refine ⟨⟨h1, h2, h3, h4, h5, h6, fun hc => ?_, fun o j ho hj => ?_, fun e he i hi hie hlt => ?_, h10⟩, fun i hi => rfl⟩
    · refine Nat.le_trans (h7 hc) ?_
      show _ ≤ pn_tot ((M.1 (sl.getD M.2.2.1 0)).2.2.2.2.take (M.2.2.2.1 + 1))
      rw [pn_tot_succ hrat]
      omega
    · obtain ⟨i, a1, a2, a3, a4⟩ := h8 o j ho hj
      refine ⟨i, a1, a2, ?_, a4⟩
      unfold pk_bf at a3 ⊢
      dsimp only
      omega
    · refine h9 e he i hi hie ?_
      have h9 : pk_bf i e.2.2 M.2.2.1 (M.2.2.2.1 + 1) := hlt
      unfold pk_bf at h9 ⊢
      by_cases hc : i = M.2.2.1 ∧ e.2.2 = M.2.2.2.1
      · exfalso
        obtain ⟨-, r, c2, c3⟩ := ok e he
        rw [hie, hc.1, hc.2, hrat] at c2
        cases c2
        refine hl ((pe_find_iff hs).mpr ?_)
        rw [← c3]
        have e2 : e.2 = (sl.getD M.2.2.1 0, M.2.2.2.1) := Prod.ext (by rw [hie, hc.1]) hc.2
        rw [← e2]
        exact he
      · omega
/-- the sources of the copies in the outputs -/
def kX (μ : pw_Mem) (ou : List Nat) (M : qM) : Prop := ∀ o j, o < M.2.1 → j < (M.1 (ou.getD o 0)).2.2.2.2.length → μ.2.2 (ou.getD o 0 + 6 + j) 4 = some (ad (M.2.2.2.2 o j))
end
section
variable {μ μ' : pw_Mem} {s : Option Nat} {b cnt last taken : Nat} {act : Bool} {sl ou fs : List Nat} {φ : Nat → qf} {P : Nat → Prop} {D : List (Nat × Nat × Nat)} {M : qM}
theorem kX.fr (h : kX μ ou M) (g : pw_fr μ μ' P) (n : ∀ o j, o < M.2.1 → j < (M.1 (ou.getD o 0)).2.2.2.2.length → ¬ P (ou.getD o 0 + 6 + j)) : kX μ' ou M := fun o j ho hj => by
  rw [(g _ (n o j ho hj)).2.2]
  exact h o j ho hj
theorem kS_at' (h : kS μ b sl cnt act last) {i : Nat} (hi : i < cnt) : f_S_at (s, pw_lay (pw_σ b) μ) (some (b + 1)) (nI i) = some (some (sl.getD i 0)) := by
  have h6 := h.2.2.2.2.2.1
  rw [kS_at h (by omega), if_pos hi, (kS_getD h (i := i) (by omega)).1]
theorem qF_record {σ : Nat → Option pw_Sh} {f : Nat} {t : qf} (h : qF σ μ f t) {i : Nat} (hi : i < t.2.2.2.2.length) : f_F_record (s, pw_lay σ μ) (some f) (nI i) = some (some (f + 6 + i)) := by
  have h11 := h.2.2.2.2.2.2.2.1
  rw [pf_record h.1 h.2.1 h.2.2.2.2.2.2.1 h11 (by omega), if_pos hi]
theorem qF_rsize {σ : Nat → Option pw_Sh} {f : Nat} {t : qf} (h : qF σ μ f t) {i : Nat} {r : qr} (hr : t.2.2.2.2[i]? = some r) (hv : rV r) : f_R_size (s, pw_lay σ μ) (some (f + 6 + i)) = some (nI (pn_len r.2.1 r.2.2.2)) := by
  have hi := (List.getElem?_eq_some_iff.mp hr).1
  have h11 := h.2.2.2.2.2.2.2.1
  obtain ⟨v1, v2, v3, v4, v5⟩ := hv
  obtain ⟨r1, r2, r3, r4⟩ := h.2.2.2.2.2.2.2.2 i r hr
  exact (pf_recSize (h.1.2.2.2.2.2.2 i (by omega)) (by omega) r3 r4 (by omega)).2
theorem ad_inj {b f g i j : Nat} (hf : isB b f) (hg : isB b g) (hi : i < 11) (hj : j < 11) : ad (f, i) = ad (g, j) ↔ (f, i) = (g, j) := by
  refine ⟨fun h => ?_, fun h => by rw [h]⟩
  have h2 : f + 6 + i = g + 6 + j := h
  obtain ⟨x, hx, hf⟩ := hf
  obtain ⟨y, hy, hg⟩ := hg
  have e : f = g := by omega
  subst e
  exact Prod.ext rfl (by dsimp only; omega)
theorem kD_hasRec (hE : kE μ b D) (hF : kF μ b φ) (ok : dOK φ fs D) (hb : ∀ f ∈ fs, isB b f) (hv : ∀ f, isB b f → qV (φ f)) {f i : Nat} (hf : isB b f) {r : qr} (hr : (φ f).2.2.2.2[i]? = some r) :
    f_D_has (s, pw_lay (pw_σ b) μ) (some (b + 105)) (some (f + 6 + i)) = some (if pe_find (pn_rank r.2.1 r.2.2.1) D = some (f, i) then 1 else 0) := by
  have hi := (List.getElem?_eq_some_iff.mp hr).1
  have q := hF f hf
  have h11 := q.2.2.2.2.2.2.2.1
  have kd := kD_of hE hF ok hb hv
  rw [kD_has kd (q.1.2.2.2.2.2.2 i (by omega)) ((hv f hf).2.2.2.2 r (List.mem_of_getElem? hr)).rank (q.2.2.2.2.2.2.2.2 i r hr).2.2.1, pe_find_map]
  cases hp : pe_find (pn_rank r.2.1 r.2.2.1) D with
  | none => rfl
  | some q0 =>
    obtain ⟨c1, r0, c2, c3⟩ := ok _ (pe_find_in hp)
    have h0 := (List.getElem?_eq_some_iff.mp c2).1
    have hB0 := hb _ c1
    have g11 := (hF _ hB0).2.2.2.2.2.2.2.1
    have this : ad q0 = ad (f, i) ↔ q0 = (f, i) := ad_inj (b := b) (f := q0.1) (g := f) (i := q0.2) (j := i) hB0 hf (by dsimp only at h0 g11; omega) (by omega)
    show some (if some (ad q0) = some (ad (f, i)) then (1 : Int32) else 0) = some (if some q0 = some (f, i) then 1 else 0)
    by_cases c : q0 = (f, i)
    · rw [c, if_pos rfl, if_pos rfl]
    · rw [if_neg (fun hc => c (this.mp (Option.some.inj hc))), if_neg (fun hc => c (Option.some.inj hc))]
theorem pk_sk_sm (cs : Nat → Nat) : ∀ n af ar, (pk_sk cs n af ar).2 ≤ ar
  | 0, _, _ => Nat.le_refl _
  | n + 1, af, ar => by
    unfold pk_sk
    split
    · exact Nat.le_refl _
    · have := pk_sk_sm cs n (af + 1) 0
      omega
/-- what a merge's steps touch -/
def pw_inM (b : Nat) (ou : List Nat) (a : Nat) : Prop := a = b + 107 ∨ ∃ f, f ∈ ou ∧ pw_in f a
theorem pw_inM.no {b : Nat} {ou : List Nat} (hb : ∀ f ∈ ou, isB b f) {a : Nat} (h : a < b + 3 ∨ a = b + 105 ∨ a = b + 106 ∨ a = b + 108 ∨ b + 211 ≤ a) : ¬ pw_inM b ou a := by
  rintro (hc | ⟨f, hf, hc⟩)
  · omega
  · exact (hb f hf).ne (by omega) hc
/-- the class in a merge -/
def kM (μ : pw_Mem) (b : Nat) (sl ou : List Nat) (cnt : Nat) (act : Bool) (last : Nat) (D : List (Nat × Nat × Nat)) (taken : Nat) (M : qM) : Prop := kS μ b sl cnt act last ∧ kE μ b D ∧ kF μ b M.1 ∧ kG μ b ou M.2.1 taken M.2.2.1 M.2.2.2.1 ∧ kX μ ou M
theorem kM_copy (hS : kS μ b sl cnt act last) (hE : kE μ b D) {φ : Nat → qf} (hF : kF μ b φ) {made af ar : Nat} {src : Nat → Nat → Nat × Nat} (hG : kG μ b ou made taken af ar) (hX : kX μ ou (φ, made, af, ar, src)) (ap : pk_ap sl ou) {o : Nat} (ho : o < 6) (hom : o + 1 = made) {f : Nat} (hf : isB b f) (hfo : f ≠ ou.getD o 0)
    {r : qr} (hr : (φ f).2.2.2.2[ar]? = some r) (hrV : rV r) (hfit : r.1 + pn_len r.2.1 r.2.2.2 ≤ (φ f).2.1.length) (hC : qB (φ f).2.1) (hc : (φ (ou.getD o 0)).2.2.2.2.length < 11) (room : (φ (ou.getD o 0)).2.1.length + pn_len r.2.1 r.2.2.2 ≤ 100) :
    ∃ μ', f_F_appendCopy (s, pw_lay (pw_σ b) μ) (some (ou.getD o 0)) (some (f + 6 + ar)) = some (s, pw_lay (pw_σ b) μ') ∧ kM μ' b sl ou cnt act last D taken (pu φ (ou.getD o 0) (pt_cp (φ (ou.getD o 0)) (φ f) r), made, af, ar, su src o (φ (ou.getD o 0)).2.2.2.2.length (f, ar)) ∧ pw_fr μ μ' (pw_in (ou.getD o 0)) := by
  obtain ⟨z1, z2, z3⟩ := kG_getD hG (i := o) ho
  obtain ⟨p, k, x, v⟩ := r
  obtain ⟨μ1, e1, q1, g1, x1, x2⟩ := qF_copy (s := s) (hF _ z3) hc (hF f hf) hC hr hrV.2.1 hrV.2.2.2.1 hfit (hf.ap z3 hfo) room
  refine ⟨μ1, e1, ⟨hS.fr g1 (z3.ne (by omega)) (z3.ne (by omega)), hE.fr g1 (z3.ne (by omega)) (z3.ne (by omega)), hF.upd z3 g1 q1, hG.fr g1 (z3.ne (by omega)) (z3.ne (by omega)), fun o' j' ho' hj' => ?_⟩, g1⟩
  have hmade : made ≤ 6 := by omega
  dsimp only at ho' hj' ⊢
  by_cases e : o' = o
  · subst e
    rw [pu_at] at hj'
    have hj2 : j' < (φ (ou.getD o' 0)).2.2.2.2.length + 1 := by
      have : (pt_cp (φ (ou.getD o' 0)) (φ f) (p, k, x, v)).2.2.2.2.length = (φ (ou.getD o' 0)).2.2.2.2.length + 1 := by
        show ((φ (ou.getD o' 0)).2.2.2.2 ++ [_]).length = _
        rw [List.length_append, List.length_singleton]
      omega
    by_cases ej : j' = (φ (ou.getD o' 0)).2.2.2.2.length
    · rw [ej, x1]
      unfold su
      rw [if_pos ⟨rfl, rfl⟩]
      rfl
    · rw [x2 j' (by omega)]
      unfold su
      rw [if_neg (fun hc => ej hc.2)]
      exact hX o' j' ho' (by dsimp only; omega)
  · have hne : ou.getD o' 0 ≠ ou.getD o 0 := fun hc => e (ap.2.2.2.1 o' o (by omega) ho hc)
    rw [pu_ne hne] at hj'
    obtain ⟨y1, y2, y3⟩ := kG_getD hG (i := o') (by omega)
    have h11 := (hF _ y3).2.2.2.2.2.2.2.1
    have hap := y3.ap z3 hne
    unfold su
    rw [if_neg (fun hc => e hc.1), (g1 _ (fun hc => by unfold pw_ap at hap; unfold pw_in at hc; omega)).2.2]
    exact hX o' j' ho' hj'
/-- the merge stands elsewhere -/
theorem kM.cur (h : kM μ b sl ou cnt act last D taken M) (hm : M.2.1 ≤ 6) (g : pw_fr μ μ' (fun a => a = b + 107)) {x y : Nat} (h1 : kG μ' b ou M.2.1 taken x y) : kM μ' b sl ou cnt act last D taken (M.1, M.2.1, x, y, M.2.2.2.2) := by
  obtain ⟨hS, hE, hF, hG, hX⟩ := h
  refine ⟨hS.fr g (by omega) (by omega), hE.fr g (by omega) (by omega), hF.fr g (fun a ha hc => by omega), h1, fun o j ho hj => ?_⟩
  dsimp only at ho hj ⊢
  obtain ⟨y1, y2, y3⟩ := kG_getD hG (i := o) (by omega)
  have h11 := (hF _ y3).2.2.2.2.2.2.2.1
  rw [(g _ (fun hc => y3.ne (a := ou.getD o 0 + 6 + j) (by omega) ⟨by omega, by omega⟩)).2.2]
  exact hX o j ho hj
theorem kM_adv (hM : kM μ b sl ou cnt act last D taken M) (hI : mI b sl ou D taken M) (ap : pk_ap sl ou) (ht : taken ≤ cnt) (hs : dS D) (ok : dOK M.1 fs D) (hfs : ∀ f ∈ fs, f ∈ sl) (hDs : ∀ e ∈ D, ∀ o', o' < 6 → e.2.1 ≠ ou.getD o' 0) (har : M.2.2.2.1 < 2 ^ 10) {n : Nat} (hn : n ≤ 20) :
    pT (pw_σ b) s (fun μ' => ∃ M', kM μ' b sl ou cnt act last D taken M' ∧ mI b sl ou D taken M' ∧ pk_skM sl taken M' = pk_adv sl ou D taken n M ∧ M'.2.2.2.1 < 2 ^ 20 ∧ (∀ i, i < 6 → M'.1 (sl.getD i 0) = M.1 (sl.getD i 0)) ∧ pw_fr μ μ' (pw_inM b ou)) (f_G_advance (s, pw_lay (pw_σ b) μ) (some (b + 107)) (nI n) (some (b + 1)) (some (b + 105))) := by
  have h6 : cnt ≤ 6 := hM.1.2.2.2.2.2.1
  have hbo : ∀ o, o < 6 → isB b (ou.getD o 0) := fun o ho => (kG_getD hM.2.2.2.1 ho).2.2
  have hbs : ∀ i, i < 6 → isB b (sl.getD i 0) := fun i hi => (kS_getD hM.1 hi).2.2
  have hfsB : ∀ f ∈ fs, isB b f := fun f hf => hM.1.2.2.2.2.2.2.2.2 f (hfs f hf)
  have hsli : ∀ f ∈ sl, ∃ i, i < 6 ∧ f = sl.getD i 0 := fun f hf => by
    obtain ⟨i, hi, rfl⟩ := List.mem_iff_getElem.mp hf
    refine ⟨i, by rw [← ap.1]; exact hi, ?_⟩
    unfold List.getD
    rw [List.getElem?_eq_getElem hi]
    rfl
  unfold f_G_advance
  generalize hK : pk_adv sl ou D taken n M = K
  refine pw_loopG (G := pT (pw_σ b) s _) n (fun m a => ∃ i μ1 M1, a = (nI i, (s, pw_lay (pw_σ b) μ1)) ∧ kM μ1 b sl ou cnt act last D taken M1 ∧ mI b sl ou D taken M1 ∧ m + i = n ∧ pk_adv sl ou D taken m M1 = K ∧ M1.2.2.2.1 < 2 ^ 10 + i + 12 ∧ (∀ i, i < 6 → M1.1 (sl.getD i 0) = M.1 (sl.getD i 0)) ∧ pw_fr μ μ1 (pw_inM b ou))
    (fun a => ∃ i μ1 M1, a = (i, (s, pw_lay (pw_σ b) μ1)) ∧ kM μ1 b sl ou cnt act last D taken M1 ∧ mI b sl ou D taken M1 ∧ pk_skM sl taken M1 = K ∧ M1.2.2.2.1 < 2 ^ 20 ∧ (∀ i, i < 6 → M1.1 (sl.getD i 0) = M.1 (sl.getD i 0)) ∧ pw_fr μ μ1 (pw_inM b ou)) ?_ ?_ ?_
  · exact ⟨0, μ, M, rfl, hM, hI, rfl, hK, by omega, fun _ _ => rfl, pw_fr.rfl⟩
  · rintro m a ⟨i, μ1, M1, rfl, k1, I1, hmi, hadv, har1, hsl1, fr1⟩
    dsimp only
    by_cases c : i < n
    · obtain ⟨m', rfl⟩ : ∃ m', m = m' + 1 := ⟨m - 1, by omega⟩
      have hmade : M1.2.1 ≤ 6 := by have := I1.2.2.2.2.1; omega
      have k1' := k1
      obtain ⟨hS1, hE1, hF1, hG1, hX1⟩ := k1'
      have hafle := I1.2.2.2.1
      obtain ⟨a2, μ2, e2, ha2, hG2, fr2⟩ := kG_came (s := s) hG1 hS1 hF1 ht hafle (by omega)
      have k2 := k1.cur hmade fr2 hG2
      have ok1 : dOK M1.1 fs D := fun e he => by
        obtain ⟨c1, r, c2, c3⟩ := ok e he
        obtain ⟨i0, hi0, he0⟩ := hsli _ (hfs _ c1)
        refine ⟨c1, r, ?_, c3⟩
        rw [he0, hsl1 i0 hi0, ← he0]
        exact c2
      have hD1 : ∀ e ∈ D, e.2.2 < (M1.1 e.2.1).2.2.2.2.length := fun e he => by
        obtain ⟨-, r, c2, -⟩ := ok1 e he
        exact (List.getElem?_eq_some_iff.mp c2).1
      have I2 := I1.skip hD1
      have k2' : kM μ2 b sl ou cnt act last D taken (pk_skM sl taken M1) := k2
      have hfrM : ∀ a, a = b + 107 → pw_inM b ou a := fun a ha => Or.inl ha
      rw [if_neg (nI_ge c (by omega)), kG_ob, Option.bind_some, e2, Option.bind_some]
      dsimp only
      rw [pk_adv] at hadv
      by_cases c2 : (pk_skM sl taken M1).2.2.1 < taken
      · rw [if_pos c2] at hadv
        have c2' : (pk_sk (pk_cs M1.1 sl) (taken - M1.2.2.1) M1.2.2.1 M1.2.2.2.1).1 < taken := c2
        rw [if_pos c2'] at ha2
        have hlt : (pk_skM sl taken M1).2.2.2.1 < pk_cs (pk_skM sl taken M1).1 sl (pk_skM sl taken M1).2.2.1 := pk_sk_lt (pk_cs M1.1 sl) (taken - M1.2.2.1) M1.2.2.1 M1.2.2.2.1 (by omega)
        generalize hM2 : pk_skM sl taken M1 = M2 at hadv c2 hlt I2 k2'
        have hφ2 : M2.1 = M1.1 := by rw [← hM2]; rfl
        have e3 : (pk_sk (pk_cs M1.1 sl) (taken - M1.2.2.1) M1.2.2.1 M1.2.2.2.1).1 = M2.2.2.1 := by rw [← hM2]; rfl
        have e4 : (pk_sk (pk_cs M1.1 sl) (taken - M1.2.2.1) M1.2.2.1 M1.2.2.2.1).2 = M2.2.2.2.1 := by rw [← hM2]; rfl
        have e5 : M2.2.1 = M1.2.1 := by rw [← hM2]; rfl
        have ok2 : dOK M2.1 fs D := by rw [hφ2]; exact ok1
        obtain ⟨hS2, hE2, hF2, hG2, hX2⟩ := k2'
        have hBf := hbs M2.2.2.1 (by omega)
        have q := hF2 _ hBf
        have h11 := q.2.2.2.2.2.2.2.1
        have hrat := pk_r_at hlt
        have hlt' : M2.2.2.2.1 < (M2.1 (sl.getD M2.2.2.1 0)).2.2.2.2.length := hlt
        have hV := fun f hf => (I2.1 f hf).1
        have hrV : rV (pk_r M2.1 sl M2.2.2.1 M2.2.2.2.1) := (hV _ hBf).2.2.2.2 _ (List.mem_of_getElem? hrat)
        obtain ⟨I3, sl3⟩ := I2.step ap (by omega) hbo hbs c2 hlt hs ok2 hDs
        have hlen := pn_len_le hrV.2.1 hrV.2.2.2.1
        left
        -- what the step leaves before the next record is come to
        have main : ∃ μ3, ((f_D_has (s, pw_lay (pw_σ b) μ2) (some (b + 105)) (some (sl.getD M2.2.2.1 0 + 6 + M2.2.2.2.1))).bind fun v12 =>
            if v12 = 0 then some (s, pw_lay (pw_σ b) μ2)
            else
              (aw_obj (s, pw_lay (pw_σ b) μ2) (some (sl.getD M2.2.2.1 0 + 6 + M2.2.2.2.1)) 4).bind fun v13 =>
              (f_R_size (s, pw_lay (pw_σ b) μ2) (some (sl.getD M2.2.2.1 0 + 6 + M2.2.2.2.1))).bind fun v14 =>
              (aw_obj (s, pw_lay (pw_σ b) μ2) (some (b + 107)) 2).bind fun v15 =>
              (f_G_outputFor (s, pw_lay (pw_σ b) μ2) (some (b + 107)) v14).bind fun v16 =>
              (aw_obj v16.2 v16.1 6).bind fun v17 =>
              (f_F_appendCopy v16.2 v16.1 (some (sl.getD M2.2.2.1 0 + 6 + M2.2.2.2.1))).bind fun v18 =>
              some v18) = some (s, pw_lay (pw_σ b) μ3) ∧ kM μ3 b sl ou cnt act last D taken ((pk_step sl ou D M2).1, (pk_step sl ou D M2).2.1, M2.2.2.1, M2.2.2.2.1, (pk_step sl ou D M2).2.2.2.2) ∧ pw_fr μ2 μ3 (pw_inM b ou) ∧ (pk_step sl ou D M2).2.2.1 = M2.2.2.1 ∧ (pk_step sl ou D M2).2.2.2.1 = M2.2.2.2.1 + 1 := by
          rw [kD_hasRec hE2 hF2 ok2 hfsB hV hBf hrat, Option.bind_some]
          unfold pk_step
          by_cases hl : pe_find (pn_rank (pk_r M2.1 sl M2.2.2.1 M2.2.2.2.1).2.1 (pk_r M2.1 sl M2.2.2.1 M2.2.2.2.1).2.2.1) D = some (sl.getD M2.2.2.1 0, M2.2.2.2.1)
          · rw [if_pos hl, if_neg (by decide), if_pos hl, qF_rob q (by omega), Option.bind_some, qF_rsize q hrat hrV, Option.bind_some, kG_ob, Option.bind_some]
            obtain ⟨o1, o2⟩ := kG_out (s := s) hG2 hF2 (by omega) (z := pn_len (pk_r M2.1 sl M2.2.2.1 M2.2.2.2.1).2.1 (pk_r M2.1 sl M2.2.2.1 M2.2.2.2.1).2.2.2) (by omega)
            have hfit := (I2.2.1 _ c2).fits hrat
            have hplace := (I2.2.1 _ c2).place hrat
            have h100 := (I2.1 _ hBf).2
            unfold pk_cp
            by_cases hf : pk_ofit M2.1 ou M2.2.1 (pn_len (pk_r M2.1 sl M2.2.2.1 M2.2.2.2.1).2.1 (pk_r M2.1 sl M2.2.2.1 M2.2.2.2.1).2.2.2)
            · have hf' := hf
              unfold pk_ofit at hf'
              rw [if_pos hf', o1 hf, Option.bind_some]
              dsimp only
              have hoc := (I2.2.2.1 (M2.2.1 - 1) (by omega)).1
              have hl9 := hoc.len ((hV _ (hbo _ (by omega))).2.2.2.2)
              have hlen9 := pn_len_ge (pk_r M2.1 sl M2.2.2.1 M2.2.2.2.1).2.1 (pk_r M2.1 sl M2.2.2.1 M2.2.2.2.1).2.2.2
              have hrk := hrV.1
              obtain ⟨μ3, x1, x2, x3⟩ := kM_copy (s := s) (af := M2.2.2.1) (ar := M2.2.2.2.1) (src := M2.2.2.2.2) (made := M2.2.1) hS2 hE2 hF2 hG2 hX2 ap (o := M2.2.1 - 1) (by omega) (by omega) hBf (ap.2.2.2.2 _ _ (by omega) (by omega)) hrat hrV hfit (hV _ hBf).1 (by omega) hf'.2
              rw [qF_ob (hF2 _ (hbo (M2.2.1 - 1) (by omega))), Option.bind_some, x1]
              refine ⟨μ3, rfl, x2, x3.mono (fun a ha => Or.inr ⟨_, (kG_getD hG2 (i := M2.2.1 - 1) (by omega)).2.1, ha⟩), rfl, rfl⟩
            · have hf' := hf
              unfold pk_ofit at hf'
              have hle : M2.2.1 ≤ M2.2.2.1 := by
                apply Classical.byContradiction
                intro hc
                have e : M2.2.1 = M2.2.2.1 + 1 := by have := I2.2.2.2.2.2.1; omega
                have := I2.2.2.2.2.2.2.1 e
                refine hf' ⟨by omega, ?_⟩
                omega
              obtain ⟨μ3, y1, y2, y3, y4⟩ := o2 hf (by omega)
              obtain ⟨w1, w2, w3⟩ := kG_getD hG2 (i := M2.2.1) (by omega)
              have hne : sl.getD M2.2.2.1 0 ≠ ou.getD M2.2.1 0 := ap.2.2.2.2 _ _ (by omega) (by omega)
              have nP : ∀ a, (a < b + 3 ∨ a = b + 105 ∨ a = b + 106 ∨ a = b + 108) → ¬ (a = b + 107 ∨ pw_in (ou.getD M2.2.1 0) a) := fun a ha hc => by
                rcases hc with hc | hc
                · omega
                · exact w3.ne (by omega) hc
              have hS3 := hS2.fr y4 (nP _ (by omega)) (nP _ (by omega))
              have hE3 := hE2.fr y4 (nP _ (by omega)) (nP _ (by omega))
              have hX3 : kX μ3 ou (pu M2.1 (ou.getD M2.2.1 0) (0, [], 0, [], []), M2.2.1 + 1, M2.2.2.1, M2.2.2.2.1, M2.2.2.2.2) := by
                intro o j ho hj
                dsimp only at ho hj ⊢
                by_cases e : o = M2.2.1
                · rw [e, pu_at] at hj
                  exact absurd hj (Nat.not_lt_zero _)
                · have hne2 : ou.getD o 0 ≠ ou.getD M2.2.1 0 := fun hc => e (ap.2.2.2.1 o _ (by omega) (by omega) hc)
                  rw [pu_ne hne2] at hj
                  have oB := hbo o (by omega)
                  have h11o := (hF2 _ oB).2.2.2.2.2.2.2.1
                  have hap := oB.ap w3 hne2
                  rw [(y4 _ (fun hc => by
                    rcases hc with hc | hc
                    · exact oB.ne (a := ou.getD o 0 + 6 + j) (by omega) ⟨by omega, by omega⟩
                    · unfold pw_ap at hap
                      unfold pw_in at hc
                      omega)).2.2]
                  exact hX2 o j (by omega) hj
              have hpf : pu M2.1 (ou.getD M2.2.1 0) (0, [], 0, [], []) (sl.getD M2.2.2.1 0) = M2.1 (sl.getD M2.2.2.1 0) := pu_ne hne
              have hpo : pu M2.1 (ou.getD M2.2.1 0) (0, [], 0, [], []) (ou.getD M2.2.1 0) = qf0 := pu_at
              obtain ⟨μ4, x1, x2, x3⟩ := kM_copy (s := s) (af := M2.2.2.1) (ar := M2.2.2.2.1) (src := M2.2.2.2.2) (made := M2.2.1 + 1) hS3 hE3 y3 y2 hX3 ap (o := M2.2.1) (by omega) rfl hBf hne (r := pk_r M2.1 sl M2.2.2.1 M2.2.2.2.1) (by rw [hpf]; exact hrat) hrV (by rw [hpf]; exact hfit) (by rw [hpf]; exact (hV _ hBf).1) (by rw [hpo]; exact (by decide : 0 < 11)) (by rw [hpo]; show 0 + _ ≤ 100; omega)
              rw [if_neg hf', y1, Option.bind_some]
              dsimp only
              rw [qF_ob (y3 _ w3), Option.bind_some, x1]
              rw [hpf, hpo] at x2
              have epu : pu (pu M2.1 (ou.getD M2.2.1 0) (0, [], 0, [], [])) (ou.getD M2.2.1 0) (pt_cp qf0 (M2.1 (sl.getD M2.2.2.1 0)) (pk_r M2.1 sl M2.2.2.1 M2.2.2.2.1)) = pu M2.1 (ou.getD M2.2.1 0) (pt_cp qf0 (M2.1 (sl.getD M2.2.2.1 0)) (pk_r M2.1 sl M2.2.2.1 M2.2.2.2.1)) := by
                funext g
                unfold pu
                split <;> rfl
              rw [epu] at x2
              refine ⟨μ4, rfl, x2, (y4.mono (fun a ha => ?_)).trans (x3.mono (fun a ha => Or.inr ⟨_, w2, ha⟩)), rfl, rfl⟩
              rcases ha with ha | ha
              · exact Or.inl ha
              · exact Or.inr ⟨_, w2, ha⟩
          · rw [if_neg hl, if_pos rfl, if_neg hl]
            exact ⟨μ2, rfl, ⟨hS2, hE2, hF2, hG2, hX2⟩, pw_fr.rfl, rfl, rfl⟩
        obtain ⟨μ3, x1, x2, x3, x4, x5⟩ := main
        have hmade3 : (pk_step sl ou D M2).2.1 ≤ 6 := by have := I3.2.2.2.2.1; omega
        obtain ⟨μ4, e7, g7, fr7⟩ := kG_p4 (s := s) x2.2.2.2.1 (M2.2.2.2.1 + 1)
        have k4 := x2.cur hmade3 fr7 g7
        refine ⟨m', (nI (i + 1), (s, pw_lay (pw_σ b) μ4)), Nat.lt_succ_self _, ?_, i + 1, μ4, pk_step sl ou D M2, rfl, ?_, I3, by omega, hadv, ?_, fun i0 hi0 => ?_, ((fr1.trans (fr2.mono hfrM)).trans x3).trans (fr7.mono hfrM)⟩
        · rw [if_pos ha2, kG_g3 hG2, Option.bind_some, kS_ob, Option.bind_some, kS_at' hS2 (by omega), Option.bind_some, if_neg (fun hc => nomatch hc), kG_g4 hG2, Option.bind_some, qF_ob q, Option.bind_some, qF_record q hlt', Option.bind_some, Option.bind_some, if_neg (fun hc => nomatch hc), kD_ob, Option.bind_some, x1, Option.bind_some, kG_g4 x2.2.2.2.1, Option.bind_some]
          dsimp only
          rw [nI_1, e7, Option.bind_some, nI_1]
        · have e9 : ((pk_step sl ou D M2).1, (pk_step sl ou D M2).2.1, M2.2.2.1, M2.2.2.2.1 + 1, (pk_step sl ou D M2).2.2.2.2) = pk_step sl ou D M2 := by rw [← x4, ← x5]
          rw [← e9]
          exact k4
        · rw [x5]
          omega
        · rw [sl3 i0 hi0, hφ2, hsl1 i0 hi0]
      · rw [if_neg c2] at hadv
        have c2' : ¬ (pk_sk (pk_cs M1.1 sl) (taken - M1.2.2.1) M1.2.2.1 M1.2.2.2.1).1 < taken := c2
        rw [if_neg c2'] at ha2
        right
        refine ⟨_, if_neg (by rw [ha2]; decide), nI i, μ2, pk_skM sl taken M1, rfl, k2', I2, ?_, ?_, hsl1, fr1.trans (fr2.mono hfrM)⟩
        · rw [← hadv]
          unfold pk_skM
          dsimp only
          rw [show taken - (pk_sk (pk_cs M1.1 sl) (taken - M1.2.2.1) M1.2.2.1 M1.2.2.2.1).1 = 0 by omega]
          rfl
        · have hge := I2.2.2.2.1
          show (pk_sk (pk_cs M1.1 sl) (taken - M1.2.2.1) M1.2.2.1 M1.2.2.2.1).2 < 2 ^ 20
          have := pk_sk_sm (pk_cs M1.1 sl) (taken - M1.2.2.1) M1.2.2.1 M1.2.2.2.1
          omega
    · have hm0 : m = 0 := by omega
      subst hm0
      right
      refine ⟨_, if_pos (nI_le (by omega) (by omega)), nI i, μ1, M1, rfl, k1, I1, hadv, by omega, hsl1, fr1⟩
  · rintro r ⟨i, μ1, M1, rfl, k1, I1, e1, e2, e3, fr1⟩
    exact ⟨μ1, rfl, M1, k1, I1, e1, e2, e3, fr1⟩
end
