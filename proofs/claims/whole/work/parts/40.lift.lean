/-! ===== the meanings over three memories: numbers, longs, references, by address and place; the shape never changes ===== -/
abbrev pw_Mem : Type := (Nat → Nat → Int32) × (Nat → Nat → Int64) × (Nat → Nat → Option Nat)
abbrev pw_Sh : Type := (Nat × Nat) ⊕ Nat
def pw_sI (μ : pw_Mem) (a k : Nat) (x : Int32) : pw_Mem := (fun b j => if b = a ∧ j = k then x else μ.1 b j, μ.2)
def pw_sL (μ : pw_Mem) (a k : Nat) (x : Int64) : pw_Mem := (μ.1, fun b j => if b = a ∧ j = k then x else μ.2.1 b j, μ.2.2)
def pw_sR (μ : pw_Mem) (a k : Nat) (x : Option Nat) : pw_Mem := (μ.1, μ.2.1, fun b j => if b = a ∧ j = k then x else μ.2.2 b j)
def pw_kd (ci : Nat) : List Nat := match ci with
  | 0 => [2, 2, 2, 0, 0]
  | 1 => [2, 0]
  | 2 => [2, 0, 0, 0, 0]
  | 3 => [2, 0]
  | 4 => [2, 0, 1, 0, 2]
  | 5 => [2, 0, 2, 0]
  | 6 => [2, 2, 2, 0, 0, 0]
  | 7 => [0, 0, 2, 2, 2, 2, 2, 2, 2, 2, 2, 2, 2, 2, 2, 0, 2, 2, 2, 2, 0, 0, 0, 0, 0, 0, 0, 0, 0]
  | _ => []
def pw_v (μ : pw_Mem) (a k kd : Nat) : Value := match kd with
  | 0 => .int (μ.1 a k)
  | 1 => .long (μ.2.1 a k)
  | _ => va_rf (μ.2.2 a k)
def pw_fs (μ : pw_Mem) (a ci : Nat) : List Value := (pw_kd ci).mapIdx fun k kd => pw_v μ a k kd
def pw_ar (μ : pw_Mem) (a t n : Nat) : vp_A := match t with
  | 0 => (n, .inl (μ.1 a))
  | 1 => (n, .inl (μ.1 a))
  | 2 => (n, .inr (.inl (μ.2.1 a)))
  | 3 => (n, .inl (μ.1 a))
  | _ => (n, .inr (.inr (.inr (.inr (μ.2.2 a)))))
def pw_lay (σ : Nat → Option pw_Sh) (μ : pw_Mem) : aw_M := fun a => match σ a with
  | none => none
  | some (.inl q) => some (.inl (q.1, pw_ar μ a q.1 q.2))
  | some (.inr ci) => some (.inr (ci, pw_fs μ a ci))
def pw_ob (σ : Nat → Option pw_Sh) (r : Option Nat) (ci : Nat) : Option Nat := match r with
  | none => none
  | some a => if σ a = some (.inr ci) then some a else none
def pw_aa (σ : Nat → Option pw_Sh) (r : Option Nat) (t : Nat) : Option (Nat × Nat) := match r with
  | none => none
  | some a => match σ a with
    | some (.inl q) => if q.1 = t then some (a, q.2) else none
    | _ => none
section
variable {σ : Nat → Option pw_Sh} {μ : pw_Mem} {s : Option Nat} {r : Option Nat} {ci k t a : Nat}
theorem pw_ob_of (h : σ a = some (.inr ci)) : pw_ob σ (some a) ci = some a := if_pos h
theorem pw_aa_of {n : Nat} (h : σ a = some (.inl (t, n))) : pw_aa σ (some a) t = some (a, n) := by
  unfold pw_aa
  dsimp only
  rw [h]
  exact if_pos rfl
theorem pw_obj : aw_obj (s, pw_lay σ μ) r ci = (pw_ob σ r ci).map fun a => (a, pw_fs μ a ci) := by
  cases r with
  | none => rfl
  | some a =>
    unfold aw_obj pw_ob pw_lay
    dsimp only
    cases h : σ a with
    | none => rfl
    | some e =>
      cases e with
      | inl q => rfl
      | inr c =>
        dsimp only
        by_cases hc : c = ci
        · subst hc
          rw [if_pos rfl, if_pos rfl]
          rfl
        · rw [if_neg hc, if_neg (fun h => hc (Sum.inr.inj (Option.some.inj h)))]
          rfl
theorem pw_arr : aw_arr (s, pw_lay σ μ) r t = (pw_aa σ r t).map fun q => (q.1, pw_ar μ q.1 t q.2) := by
  cases r with
  | none => rfl
  | some a =>
    unfold aw_arr pw_aa pw_lay
    dsimp only
    cases h : σ a with
    | none => rfl
    | some e =>
      cases e with
      | inr c => rfl
      | inl q =>
        dsimp only
        by_cases hc : q.1 = t
        · rw [if_pos hc, if_pos hc, hc]
          rfl
        · rw [if_neg hc, if_neg hc]
          rfl
theorem pw_fs_get {kd : Nat} (h : (pw_kd ci)[k]? = some kd) : (pw_fs μ a ci)[k]? = some (pw_v μ a k kd) := by
  unfold pw_fs
  rw [List.getElem?_mapIdx, h]
  rfl
theorem pw_gI (h : (pw_kd ci)[k]? = some 0) : aw_gI (s, pw_lay σ μ) r ci k = (pw_ob σ r ci).map fun a => μ.1 a k := by
  unfold aw_gI aw_gV
  rw [pw_obj]
  cases pw_ob σ r ci with
  | none => rfl
  | some a =>
    show ((pw_fs μ a ci)[k]?).bind aw_vI = _
    rw [pw_fs_get h]
    rfl
theorem pw_gL (h : (pw_kd ci)[k]? = some 1) : aw_gL (s, pw_lay σ μ) r ci k = (pw_ob σ r ci).map fun a => μ.2.1 a k := by
  unfold aw_gL aw_gV
  rw [pw_obj]
  cases pw_ob σ r ci with
  | none => rfl
  | some a =>
    show ((pw_fs μ a ci)[k]?).bind aw_vL = _
    rw [pw_fs_get h]
    rfl
theorem pw_gR (h : (pw_kd ci)[k]? = some 2) : aw_gR (s, pw_lay σ μ) r ci k = (pw_ob σ r ci).map fun a => μ.2.2 a k := by
  unfold aw_gR aw_gV
  rw [pw_obj]
  cases pw_ob σ r ci with
  | none => rfl
  | some a =>
    show ((pw_fs μ a ci)[k]?).bind aw_vR = _
    rw [pw_fs_get h]
    show aw_vR (va_rf (μ.2.2 a k)) = some (μ.2.2 a k)
    cases μ.2.2 a k <;> rfl
theorem pw_sI_off {x : Int32} {q : Nat} (h : q ≠ a) : (pw_sI μ a k x).1 q = μ.1 q := funext fun j => if_neg fun hc => h hc.1
theorem pw_sL_off {x : Int64} {q : Nat} (h : q ≠ a) : (pw_sL μ a k x).2.1 q = μ.2.1 q := funext fun j => if_neg fun hc => h hc.1
theorem pw_sR_off {x : Option Nat} {q : Nat} (h : q ≠ a) : (pw_sR μ a k x).2.2 q = μ.2.2 q := funext fun j => if_neg fun hc => h hc.1
/-- two memories that are the same at q lay the same there -/
theorem pw_lay_at {μ' : pw_Mem} {q : Nat} (h1 : μ'.1 q = μ.1 q) (h2 : μ'.2.1 q = μ.2.1 q) (h3 : μ'.2.2 q = μ.2.2 q) : pw_lay σ μ' q = pw_lay σ μ q := by
  unfold pw_lay
  cases σ q with
  | none => rfl
  | some e =>
    cases e with
    | inl p =>
      dsimp only [pw_ar]
      rw [h1, h2, h3]
    | inr c =>
      dsimp only [pw_fs]
      congr 4
      funext k kd
      unfold pw_v
      rw [h1, h2, h3]
theorem pw_set {μ' : pw_Mem} {e : va_E} (hq : ∀ q, q ≠ a → pw_lay σ μ' q = pw_lay σ μ q) (ha : pw_lay σ μ' a = some e) : aw_set (s, pw_lay σ μ) a e = (s, pw_lay σ μ') := by
  unfold aw_set
  refine Prod.ext rfl (funext fun q => ?_)
  dsimp only
  by_cases h : q = a
  · rw [if_pos h, h, ha]
  · rw [if_neg h, hq q h]
theorem pw_fs_set {μ' : pw_Mem} {v : Value} {kd : Nat} (hk : (pw_kd ci)[k]? = some kd) (hv : pw_v μ' a k kd = v) (ho : ∀ j d, j ≠ k → pw_v μ' a j d = pw_v μ a j d) : (pw_fs μ a ci).set k v = pw_fs μ' a ci := by
  refine List.ext_getElem? fun j => ?_
  rw [List.getElem?_set]
  have hlt : k < (pw_fs μ a ci).length := by
    unfold pw_fs
    rw [List.length_mapIdx]
    exact (List.getElem?_eq_some_iff.mp hk).1
  by_cases hj : k = j
  · subst hj
    rw [if_pos rfl, if_pos hlt, pw_fs_get hk, hv]
  · rw [if_neg hj]
    unfold pw_fs
    rw [List.getElem?_mapIdx, List.getElem?_mapIdx]
    cases (pw_kd ci)[j]? with
    | none => rfl
    | some d => exact congrArg some (ho j d (fun h => hj h.symm)).symm
theorem pw_pV {μ' : Nat → pw_Mem} {v : Value} {kd : Nat} (hk : (pw_kd ci)[k]? = some kd) (hq : ∀ a q, q ≠ a → pw_lay σ (μ' a) q = pw_lay σ μ q) (hv : ∀ a, pw_v (μ' a) a k kd = v) (ho : ∀ a j d, j ≠ k → pw_v (μ' a) a j d = pw_v μ a j d) :
    aw_pV (s, pw_lay σ μ) r ci k v = (pw_ob σ r ci).map fun a => (s, pw_lay σ (μ' a)) := by
  unfold aw_pV
  rw [pw_obj]
  cases h : pw_ob σ r ci with
  | none => rfl
  | some a =>
    have ha : σ a = some (.inr ci) := by
      cases r with
      | none => cases h
      | some b =>
        unfold pw_ob at h
        dsimp only at h
        by_cases hb : σ b = some (.inr ci)
        · rw [if_pos hb] at h
          cases h
          exact hb
        · rw [if_neg hb] at h
          cases h
    have hlt : k < (pw_fs μ a ci).length := by
      unfold pw_fs
      rw [List.length_mapIdx]
      exact (List.getElem?_eq_some_iff.mp hk).1
    show (if k < (pw_fs μ a ci).length then some (aw_set (s, pw_lay σ μ) a (.inr (ci, (pw_fs μ a ci).set k v))) else none) = some (s, pw_lay σ (μ' a))
    rw [if_pos hlt, pw_fs_set hk (hv a) (ho a), pw_set (hq a)]
    unfold pw_lay
    rw [ha]
theorem pw_pI {x : Int32} (hk : (pw_kd ci)[k]? = some 0) : aw_pV (s, pw_lay σ μ) r ci k (.int x) = (pw_ob σ r ci).map fun a => (s, pw_lay σ (pw_sI μ a k x)) := by
  refine pw_pV (μ' := fun a => pw_sI μ a k x) hk (fun a q h => pw_lay_at (pw_sI_off h) rfl rfl) (fun a => ?_) (fun a j d h => ?_)
  · show Value.int (if a = a ∧ k = k then x else μ.1 a k) = _
    rw [if_pos ⟨rfl, rfl⟩]
  · have h1 : (pw_sI μ a k x).1 a j = μ.1 a j := if_neg fun hc => h hc.2
    unfold pw_v
    rw [h1]
    rfl
theorem pw_pL {x : Int64} (hk : (pw_kd ci)[k]? = some 1) : aw_pV (s, pw_lay σ μ) r ci k (.long x) = (pw_ob σ r ci).map fun a => (s, pw_lay σ (pw_sL μ a k x)) := by
  refine pw_pV (μ' := fun a => pw_sL μ a k x) hk (fun a q h => pw_lay_at rfl (pw_sL_off h) rfl) (fun a => ?_) (fun a j d h => ?_)
  · show Value.long (if a = a ∧ k = k then x else μ.2.1 a k) = _
    rw [if_pos ⟨rfl, rfl⟩]
  · have h1 : (pw_sL μ a k x).2.1 a j = μ.2.1 a j := if_neg fun hc => h hc.2
    unfold pw_v
    rw [h1]
    rfl
theorem pw_pR {x : Option Nat} (hk : (pw_kd ci)[k]? = some 2) : aw_pV (s, pw_lay σ μ) r ci k (va_rf x) = (pw_ob σ r ci).map fun a => (s, pw_lay σ (pw_sR μ a k x)) := by
  refine pw_pV (μ' := fun a => pw_sR μ a k x) hk (fun a q h => pw_lay_at rfl rfl (pw_sR_off h)) (fun a => ?_) (fun a j d h => ?_)
  · show va_rf (if a = a ∧ k = k then x else μ.2.2 a k) = _
    rw [if_pos ⟨rfl, rfl⟩]
  · have h1 : (pw_sR μ a k x).2.2 a j = μ.2.2 a j := if_neg fun hc => h hc.2
    unfold pw_v
    rw [h1]
    rfl
theorem pw_aa_at {q : Nat × Nat} (h : pw_aa σ r t = some q) : r = some q.1 ∧ σ q.1 = some (.inl (t, q.2)) := by
  cases r with
  | none => cases h
  | some a =>
    unfold pw_aa at h
    dsimp only at h
    cases hs : σ a with
    | none => rw [hs] at h; cases h
    | some e =>
      rw [hs] at h
      cases e with
      | inr c => cases h
      | inl p =>
        dsimp only at h
        by_cases hp : p.1 = t
        · rw [if_pos hp] at h
          cases h
          exact ⟨rfl, by rw [hs, ← hp]⟩
        · rw [if_neg hp] at h; cases h
theorem pw_len : aw_len (s, pw_lay σ μ) r t = (pw_aa σ r t).map fun q => Int32.ofNat q.2 := by
  unfold aw_len
  rw [pw_arr, Option.map_map]
  congr 1
  funext q
  show Int32.ofNat (pw_ar μ q.1 t q.2).1 = _
  unfold pw_ar
  split <;> rfl
theorem pw_aI_0 {i : Int32} : aw_aI (s, pw_lay σ μ) r 0 i = (pw_aa σ r 0).bind fun q => (aw_ix i q.2).map (μ.1 q.1) := by
  unfold aw_aI
  rw [pw_arr, Option.bind_map]
  rfl
theorem pw_sI_0 {i x : Int32} : aw_sI (s, pw_lay σ μ) r 0 i x = (pw_aa σ r 0).bind fun q => (aw_ix i q.2).map fun j => (s, pw_lay σ (pw_sI μ q.1 j x)) := by
  unfold aw_sI
  rw [pw_arr, Option.bind_map]
  cases h : pw_aa σ r 0 with
  | none => rfl
  | some q =>
    have ha := (pw_aa_at h).2
    show ((aw_ix i q.2).map fun j => aw_set (s, pw_lay σ μ) q.1 (.inl (0, q.2, .inl (upd (μ.1 q.1) j x)))) = (aw_ix i q.2).map fun j => (s, pw_lay σ (pw_sI μ q.1 j x))
    congr 1
    funext j
    refine pw_set (fun p hp => pw_lay_at (pw_sI_off hp) rfl rfl) ?_
    have h1 : (pw_sI μ q.1 j x).1 q.1 = upd (μ.1 q.1) j x := by
      funext i9
      show (if q.1 = q.1 ∧ i9 = j then x else μ.1 q.1 i9) = _
      by_cases h9 : i9 = j
      · rw [if_pos ⟨rfl, h9⟩, h9]; simp [upd]
      · rw [if_neg (fun hc => h9 hc.2)]; simp [upd, h9]
    unfold pw_lay
    rw [ha]
    dsimp only [pw_ar]
    rw [h1]
    rfl
theorem pw_aI_1 {i : Int32} : aw_aI (s, pw_lay σ μ) r 1 i = (pw_aa σ r 1).bind fun q => (aw_ix i q.2).map (μ.1 q.1) := by
  unfold aw_aI
  rw [pw_arr, Option.bind_map]
  rfl
theorem pw_sI_1 {i x : Int32} : aw_sI (s, pw_lay σ μ) r 1 i x = (pw_aa σ r 1).bind fun q => (aw_ix i q.2).map fun j => (s, pw_lay σ (pw_sI μ q.1 j x)) := by
  unfold aw_sI
  rw [pw_arr, Option.bind_map]
  cases h : pw_aa σ r 1 with
  | none => rfl
  | some q =>
    have ha := (pw_aa_at h).2
    show ((aw_ix i q.2).map fun j => aw_set (s, pw_lay σ μ) q.1 (.inl (1, q.2, .inl (upd (μ.1 q.1) j x)))) = (aw_ix i q.2).map fun j => (s, pw_lay σ (pw_sI μ q.1 j x))
    congr 1
    funext j
    refine pw_set (fun p hp => pw_lay_at (pw_sI_off hp) rfl rfl) ?_
    have h1 : (pw_sI μ q.1 j x).1 q.1 = upd (μ.1 q.1) j x := by
      funext i9
      show (if q.1 = q.1 ∧ i9 = j then x else μ.1 q.1 i9) = _
      by_cases h9 : i9 = j
      · rw [if_pos ⟨rfl, h9⟩, h9]; simp [upd]
      · rw [if_neg (fun hc => h9 hc.2)]; simp [upd, h9]
    unfold pw_lay
    rw [ha]
    dsimp only [pw_ar]
    rw [h1]
    rfl
theorem pw_aI_3 {i : Int32} : aw_aI (s, pw_lay σ μ) r 3 i = (pw_aa σ r 3).bind fun q => (aw_ix i q.2).map (μ.1 q.1) := by
  unfold aw_aI
  rw [pw_arr, Option.bind_map]
  rfl
theorem pw_sI_3 {i x : Int32} : aw_sI (s, pw_lay σ μ) r 3 i x = (pw_aa σ r 3).bind fun q => (aw_ix i q.2).map fun j => (s, pw_lay σ (pw_sI μ q.1 j x)) := by
  unfold aw_sI
  rw [pw_arr, Option.bind_map]
  cases h : pw_aa σ r 3 with
  | none => rfl
  | some q =>
    have ha := (pw_aa_at h).2
    show ((aw_ix i q.2).map fun j => aw_set (s, pw_lay σ μ) q.1 (.inl (3, q.2, .inl (upd (μ.1 q.1) j x)))) = (aw_ix i q.2).map fun j => (s, pw_lay σ (pw_sI μ q.1 j x))
    congr 1
    funext j
    refine pw_set (fun p hp => pw_lay_at (pw_sI_off hp) rfl rfl) ?_
    have h1 : (pw_sI μ q.1 j x).1 q.1 = upd (μ.1 q.1) j x := by
      funext i9
      show (if q.1 = q.1 ∧ i9 = j then x else μ.1 q.1 i9) = _
      by_cases h9 : i9 = j
      · rw [if_pos ⟨rfl, h9⟩, h9]; simp [upd]
      · rw [if_neg (fun hc => h9 hc.2)]; simp [upd, h9]
    unfold pw_lay
    rw [ha]
    dsimp only [pw_ar]
    rw [h1]
    rfl
theorem pw_aL_2 {i : Int32} : aw_aL (s, pw_lay σ μ) r 2 i = (pw_aa σ r 2).bind fun q => (aw_ix i q.2).map (μ.2.1 q.1) := by
  unfold aw_aL
  rw [pw_arr, Option.bind_map]
  rfl
theorem pw_sL_2 {i : Int32} {x : Int64} : aw_sL (s, pw_lay σ μ) r 2 i x = (pw_aa σ r 2).bind fun q => (aw_ix i q.2).map fun j => (s, pw_lay σ (pw_sL μ q.1 j x)) := by
  unfold aw_sL
  rw [pw_arr, Option.bind_map]
  cases h : pw_aa σ r 2 with
  | none => rfl
  | some q =>
    have ha := (pw_aa_at h).2
    show ((aw_ix i q.2).map fun j => aw_set (s, pw_lay σ μ) q.1 (.inl (2, q.2, .inr (.inl (vp_updL (μ.2.1 q.1) j x))))) = (aw_ix i q.2).map fun j => (s, pw_lay σ (pw_sL μ q.1 j x))
    congr 1
    funext j
    refine pw_set (fun p hp => pw_lay_at rfl (pw_sL_off hp) rfl) ?_
    have h1 : (pw_sL μ q.1 j x).2.1 q.1 = vp_updL (μ.2.1 q.1) j x := by
      funext i9
      show (if q.1 = q.1 ∧ i9 = j then x else μ.2.1 q.1 i9) = if i9 = j then x else μ.2.1 q.1 i9
      by_cases h9 : i9 = j
      · rw [if_pos ⟨rfl, h9⟩, if_pos h9]
      · rw [if_neg (fun hc => h9 hc.2), if_neg h9]
    unfold pw_lay
    rw [ha]
    dsimp only [pw_ar]
    rw [h1]
    rfl
theorem pw_aR_4 {i : Int32} : aw_aR (s, pw_lay σ μ) r 4 i = (pw_aa σ r 4).bind fun q => (aw_ix i q.2).map (μ.2.2 q.1) := by
  unfold aw_aR
  rw [pw_arr, Option.bind_map]
  rfl
theorem pw_sR_4 {i : Int32} {x : Option Nat} : aw_sR (s, pw_lay σ μ) r 4 i x = (pw_aa σ r 4).bind fun q => (aw_ix i q.2).map fun j => (s, pw_lay σ (pw_sR μ q.1 j x)) := by
  unfold aw_sR
  rw [pw_arr, Option.bind_map]
  cases h : pw_aa σ r 4 with
  | none => rfl
  | some q =>
    have ha := (pw_aa_at h).2
    show ((aw_ix i q.2).map fun j => aw_set (s, pw_lay σ μ) q.1 (.inl (4, q.2, .inr (.inr (.inr (.inr (va_up (μ.2.2 q.1) j x))))))) = (aw_ix i q.2).map fun j => (s, pw_lay σ (pw_sR μ q.1 j x))
    congr 1
    funext j
    refine pw_set (fun p hp => pw_lay_at rfl rfl (pw_sR_off hp)) ?_
    have h1 : (pw_sR μ q.1 j x).2.2 q.1 = va_up (μ.2.2 q.1) j x := by
      funext i9
      show (if q.1 = q.1 ∧ i9 = j then x else μ.2.2 q.1 i9) = if i9 = j then x else μ.2.2 q.1 i9
      by_cases h9 : i9 = j
      · rw [if_pos ⟨rfl, h9⟩, if_pos h9]
      · rw [if_neg (fun hc => h9 hc.2), if_neg h9]
    unfold pw_lay
    rw [ha]
    dsimp only [pw_ar]
    rw [h1]
    rfl
theorem pw_aR_5 {i : Int32} : aw_aR (s, pw_lay σ μ) r 5 i = (pw_aa σ r 5).bind fun q => (aw_ix i q.2).map (μ.2.2 q.1) := by
  unfold aw_aR
  rw [pw_arr, Option.bind_map]
  rfl
theorem pw_sR_5 {i : Int32} {x : Option Nat} : aw_sR (s, pw_lay σ μ) r 5 i x = (pw_aa σ r 5).bind fun q => (aw_ix i q.2).map fun j => (s, pw_lay σ (pw_sR μ q.1 j x)) := by
  unfold aw_sR
  rw [pw_arr, Option.bind_map]
  cases h : pw_aa σ r 5 with
  | none => rfl
  | some q =>
    have ha := (pw_aa_at h).2
    show ((aw_ix i q.2).map fun j => aw_set (s, pw_lay σ μ) q.1 (.inl (5, q.2, .inr (.inr (.inr (.inr (va_up (μ.2.2 q.1) j x))))))) = (aw_ix i q.2).map fun j => (s, pw_lay σ (pw_sR μ q.1 j x))
    congr 1
    funext j
    refine pw_set (fun p hp => pw_lay_at rfl rfl (pw_sR_off hp)) ?_
    have h1 : (pw_sR μ q.1 j x).2.2 q.1 = va_up (μ.2.2 q.1) j x := by
      funext i9
      show (if q.1 = q.1 ∧ i9 = j then x else μ.2.2 q.1 i9) = if i9 = j then x else μ.2.2 q.1 i9
      by_cases h9 : i9 = j
      · rw [if_pos ⟨rfl, h9⟩, if_pos h9]
      · rw [if_neg (fun hc => h9 hc.2), if_neg h9]
    unfold pw_lay
    rw [ha]
    dsimp only [pw_ar]
    rw [h1]
    rfl
theorem pg_A_0 : aw_gR (s, pw_lay σ μ) r 0 0 = (pw_ob σ r 0).map fun a => μ.2.2 a 0 := pw_gR rfl
theorem pp_A_0 {x : Option Nat} : aw_pV (s, pw_lay σ μ) r 0 0 (va_rf x) = (pw_ob σ r 0).map fun a => (s, pw_lay σ (pw_sR μ a 0 x)) := pw_pR rfl
theorem pg_A_1 : aw_gR (s, pw_lay σ μ) r 0 1 = (pw_ob σ r 0).map fun a => μ.2.2 a 1 := pw_gR rfl
theorem pp_A_1 {x : Option Nat} : aw_pV (s, pw_lay σ μ) r 0 1 (va_rf x) = (pw_ob σ r 0).map fun a => (s, pw_lay σ (pw_sR μ a 1 x)) := pw_pR rfl
theorem pg_A_2 : aw_gR (s, pw_lay σ μ) r 0 2 = (pw_ob σ r 0).map fun a => μ.2.2 a 2 := pw_gR rfl
theorem pp_A_2 {x : Option Nat} : aw_pV (s, pw_lay σ μ) r 0 2 (va_rf x) = (pw_ob σ r 0).map fun a => (s, pw_lay σ (pw_sR μ a 2 x)) := pw_pR rfl
theorem pg_A_3 : aw_gI (s, pw_lay σ μ) r 0 3 = (pw_ob σ r 0).map fun a => μ.1 a 3 := pw_gI rfl
theorem pp_A_3 {x : Int32} : aw_pV (s, pw_lay σ μ) r 0 3 (.int x) = (pw_ob σ r 0).map fun a => (s, pw_lay σ (pw_sI μ a 3 x)) := pw_pI rfl
theorem pg_A_4 : aw_gI (s, pw_lay σ μ) r 0 4 = (pw_ob σ r 0).map fun a => μ.1 a 4 := pw_gI rfl
theorem pp_A_4 {x : Int32} : aw_pV (s, pw_lay σ μ) r 0 4 (.int x) = (pw_ob σ r 0).map fun a => (s, pw_lay σ (pw_sI μ a 4 x)) := pw_pI rfl
theorem pg_D_0 : aw_gR (s, pw_lay σ μ) r 1 0 = (pw_ob σ r 1).map fun a => μ.2.2 a 0 := pw_gR rfl
theorem pp_D_0 {x : Option Nat} : aw_pV (s, pw_lay σ μ) r 1 0 (va_rf x) = (pw_ob σ r 1).map fun a => (s, pw_lay σ (pw_sR μ a 0 x)) := pw_pR rfl
theorem pg_D_1 : aw_gI (s, pw_lay σ μ) r 1 1 = (pw_ob σ r 1).map fun a => μ.1 a 1 := pw_gI rfl
theorem pp_D_1 {x : Int32} : aw_pV (s, pw_lay σ μ) r 1 1 (.int x) = (pw_ob σ r 1).map fun a => (s, pw_lay σ (pw_sI μ a 1 x)) := pw_pI rfl
theorem pg_G_0 : aw_gR (s, pw_lay σ μ) r 2 0 = (pw_ob σ r 2).map fun a => μ.2.2 a 0 := pw_gR rfl
theorem pp_G_0 {x : Option Nat} : aw_pV (s, pw_lay σ μ) r 2 0 (va_rf x) = (pw_ob σ r 2).map fun a => (s, pw_lay σ (pw_sR μ a 0 x)) := pw_pR rfl
theorem pg_G_1 : aw_gI (s, pw_lay σ μ) r 2 1 = (pw_ob σ r 2).map fun a => μ.1 a 1 := pw_gI rfl
theorem pp_G_1 {x : Int32} : aw_pV (s, pw_lay σ μ) r 2 1 (.int x) = (pw_ob σ r 2).map fun a => (s, pw_lay σ (pw_sI μ a 1 x)) := pw_pI rfl
theorem pg_G_2 : aw_gI (s, pw_lay σ μ) r 2 2 = (pw_ob σ r 2).map fun a => μ.1 a 2 := pw_gI rfl
theorem pp_G_2 {x : Int32} : aw_pV (s, pw_lay σ μ) r 2 2 (.int x) = (pw_ob σ r 2).map fun a => (s, pw_lay σ (pw_sI μ a 2 x)) := pw_pI rfl
theorem pg_G_3 : aw_gI (s, pw_lay σ μ) r 2 3 = (pw_ob σ r 2).map fun a => μ.1 a 3 := pw_gI rfl
theorem pp_G_3 {x : Int32} : aw_pV (s, pw_lay σ μ) r 2 3 (.int x) = (pw_ob σ r 2).map fun a => (s, pw_lay σ (pw_sI μ a 3 x)) := pw_pI rfl
theorem pg_G_4 : aw_gI (s, pw_lay σ μ) r 2 4 = (pw_ob σ r 2).map fun a => μ.1 a 4 := pw_gI rfl
theorem pp_G_4 {x : Int32} : aw_pV (s, pw_lay σ μ) r 2 4 (.int x) = (pw_ob σ r 2).map fun a => (s, pw_lay σ (pw_sI μ a 4 x)) := pw_pI rfl
theorem pg_O_0 : aw_gR (s, pw_lay σ μ) r 3 0 = (pw_ob σ r 3).map fun a => μ.2.2 a 0 := pw_gR rfl
theorem pp_O_0 {x : Option Nat} : aw_pV (s, pw_lay σ μ) r 3 0 (va_rf x) = (pw_ob σ r 3).map fun a => (s, pw_lay σ (pw_sR μ a 0 x)) := pw_pR rfl
theorem pg_O_1 : aw_gI (s, pw_lay σ μ) r 3 1 = (pw_ob σ r 3).map fun a => μ.1 a 1 := pw_gI rfl
theorem pp_O_1 {x : Int32} : aw_pV (s, pw_lay σ μ) r 3 1 (.int x) = (pw_ob σ r 3).map fun a => (s, pw_lay σ (pw_sI μ a 1 x)) := pw_pI rfl
theorem pg_R_0 : aw_gR (s, pw_lay σ μ) r 4 0 = (pw_ob σ r 4).map fun a => μ.2.2 a 0 := pw_gR rfl
theorem pp_R_0 {x : Option Nat} : aw_pV (s, pw_lay σ μ) r 4 0 (va_rf x) = (pw_ob σ r 4).map fun a => (s, pw_lay σ (pw_sR μ a 0 x)) := pw_pR rfl
theorem pg_R_1 : aw_gI (s, pw_lay σ μ) r 4 1 = (pw_ob σ r 4).map fun a => μ.1 a 1 := pw_gI rfl
theorem pp_R_1 {x : Int32} : aw_pV (s, pw_lay σ μ) r 4 1 (.int x) = (pw_ob σ r 4).map fun a => (s, pw_lay σ (pw_sI μ a 1 x)) := pw_pI rfl
theorem pg_R_2 : aw_gL (s, pw_lay σ μ) r 4 2 = (pw_ob σ r 4).map fun a => μ.2.1 a 2 := pw_gL rfl
theorem pp_R_2 {x : Int64} : aw_pV (s, pw_lay σ μ) r 4 2 (.long x) = (pw_ob σ r 4).map fun a => (s, pw_lay σ (pw_sL μ a 2 x)) := pw_pL rfl
theorem pg_R_3 : aw_gI (s, pw_lay σ μ) r 4 3 = (pw_ob σ r 4).map fun a => μ.1 a 3 := pw_gI rfl
theorem pp_R_3 {x : Int32} : aw_pV (s, pw_lay σ μ) r 4 3 (.int x) = (pw_ob σ r 4).map fun a => (s, pw_lay σ (pw_sI μ a 3 x)) := pw_pI rfl
theorem pg_R_4 : aw_gR (s, pw_lay σ μ) r 4 4 = (pw_ob σ r 4).map fun a => μ.2.2 a 4 := pw_gR rfl
theorem pp_R_4 {x : Option Nat} : aw_pV (s, pw_lay σ μ) r 4 4 (va_rf x) = (pw_ob σ r 4).map fun a => (s, pw_lay σ (pw_sR μ a 4 x)) := pw_pR rfl
theorem pg_S_0 : aw_gR (s, pw_lay σ μ) r 5 0 = (pw_ob σ r 5).map fun a => μ.2.2 a 0 := pw_gR rfl
theorem pp_S_0 {x : Option Nat} : aw_pV (s, pw_lay σ μ) r 5 0 (va_rf x) = (pw_ob σ r 5).map fun a => (s, pw_lay σ (pw_sR μ a 0 x)) := pw_pR rfl
theorem pg_S_1 : aw_gI (s, pw_lay σ μ) r 5 1 = (pw_ob σ r 5).map fun a => μ.1 a 1 := pw_gI rfl
theorem pp_S_1 {x : Int32} : aw_pV (s, pw_lay σ μ) r 5 1 (.int x) = (pw_ob σ r 5).map fun a => (s, pw_lay σ (pw_sI μ a 1 x)) := pw_pI rfl
theorem pg_S_2 : aw_gR (s, pw_lay σ μ) r 5 2 = (pw_ob σ r 5).map fun a => μ.2.2 a 2 := pw_gR rfl
theorem pp_S_2 {x : Option Nat} : aw_pV (s, pw_lay σ μ) r 5 2 (va_rf x) = (pw_ob σ r 5).map fun a => (s, pw_lay σ (pw_sR μ a 2 x)) := pw_pR rfl
theorem pg_S_3 : aw_gI (s, pw_lay σ μ) r 5 3 = (pw_ob σ r 5).map fun a => μ.1 a 3 := pw_gI rfl
theorem pp_S_3 {x : Int32} : aw_pV (s, pw_lay σ μ) r 5 3 (.int x) = (pw_ob σ r 5).map fun a => (s, pw_lay σ (pw_sI μ a 3 x)) := pw_pI rfl
theorem pg_F_0 : aw_gR (s, pw_lay σ μ) r 6 0 = (pw_ob σ r 6).map fun a => μ.2.2 a 0 := pw_gR rfl
theorem pp_F_0 {x : Option Nat} : aw_pV (s, pw_lay σ μ) r 6 0 (va_rf x) = (pw_ob σ r 6).map fun a => (s, pw_lay σ (pw_sR μ a 0 x)) := pw_pR rfl
theorem pg_F_1 : aw_gR (s, pw_lay σ μ) r 6 1 = (pw_ob σ r 6).map fun a => μ.2.2 a 1 := pw_gR rfl
theorem pp_F_1 {x : Option Nat} : aw_pV (s, pw_lay σ μ) r 6 1 (va_rf x) = (pw_ob σ r 6).map fun a => (s, pw_lay σ (pw_sR μ a 1 x)) := pw_pR rfl
theorem pg_F_2 : aw_gR (s, pw_lay σ μ) r 6 2 = (pw_ob σ r 6).map fun a => μ.2.2 a 2 := pw_gR rfl
theorem pp_F_2 {x : Option Nat} : aw_pV (s, pw_lay σ μ) r 6 2 (va_rf x) = (pw_ob σ r 6).map fun a => (s, pw_lay σ (pw_sR μ a 2 x)) := pw_pR rfl
theorem pg_F_3 : aw_gI (s, pw_lay σ μ) r 6 3 = (pw_ob σ r 6).map fun a => μ.1 a 3 := pw_gI rfl
theorem pp_F_3 {x : Int32} : aw_pV (s, pw_lay σ μ) r 6 3 (.int x) = (pw_ob σ r 6).map fun a => (s, pw_lay σ (pw_sI μ a 3 x)) := pw_pI rfl
theorem pg_F_4 : aw_gI (s, pw_lay σ μ) r 6 4 = (pw_ob σ r 6).map fun a => μ.1 a 4 := pw_gI rfl
theorem pp_F_4 {x : Int32} : aw_pV (s, pw_lay σ μ) r 6 4 (.int x) = (pw_ob σ r 6).map fun a => (s, pw_lay σ (pw_sI μ a 4 x)) := pw_pI rfl
theorem pg_F_5 : aw_gI (s, pw_lay σ μ) r 6 5 = (pw_ob σ r 6).map fun a => μ.1 a 5 := pw_gI rfl
theorem pp_F_5 {x : Int32} : aw_pV (s, pw_lay σ μ) r 6 5 (.int x) = (pw_ob σ r 6).map fun a => (s, pw_lay σ (pw_sI μ a 5 x)) := pw_pI rfl
theorem pg_M_0 : aw_gI (s, pw_lay σ μ) r 7 0 = (pw_ob σ r 7).map fun a => μ.1 a 0 := pw_gI rfl
theorem pp_M_0 {x : Int32} : aw_pV (s, pw_lay σ μ) r 7 0 (.int x) = (pw_ob σ r 7).map fun a => (s, pw_lay σ (pw_sI μ a 0 x)) := pw_pI rfl
theorem pg_M_1 : aw_gI (s, pw_lay σ μ) r 7 1 = (pw_ob σ r 7).map fun a => μ.1 a 1 := pw_gI rfl
theorem pp_M_1 {x : Int32} : aw_pV (s, pw_lay σ μ) r 7 1 (.int x) = (pw_ob σ r 7).map fun a => (s, pw_lay σ (pw_sI μ a 1 x)) := pw_pI rfl
theorem pg_M_2 : aw_gR (s, pw_lay σ μ) r 7 2 = (pw_ob σ r 7).map fun a => μ.2.2 a 2 := pw_gR rfl
theorem pp_M_2 {x : Option Nat} : aw_pV (s, pw_lay σ μ) r 7 2 (va_rf x) = (pw_ob σ r 7).map fun a => (s, pw_lay σ (pw_sR μ a 2 x)) := pw_pR rfl
theorem pg_M_3 : aw_gR (s, pw_lay σ μ) r 7 3 = (pw_ob σ r 7).map fun a => μ.2.2 a 3 := pw_gR rfl
theorem pp_M_3 {x : Option Nat} : aw_pV (s, pw_lay σ μ) r 7 3 (va_rf x) = (pw_ob σ r 7).map fun a => (s, pw_lay σ (pw_sR μ a 3 x)) := pw_pR rfl
theorem pg_M_4 : aw_gR (s, pw_lay σ μ) r 7 4 = (pw_ob σ r 7).map fun a => μ.2.2 a 4 := pw_gR rfl
theorem pp_M_4 {x : Option Nat} : aw_pV (s, pw_lay σ μ) r 7 4 (va_rf x) = (pw_ob σ r 7).map fun a => (s, pw_lay σ (pw_sR μ a 4 x)) := pw_pR rfl
theorem pg_M_5 : aw_gR (s, pw_lay σ μ) r 7 5 = (pw_ob σ r 7).map fun a => μ.2.2 a 5 := pw_gR rfl
theorem pp_M_5 {x : Option Nat} : aw_pV (s, pw_lay σ μ) r 7 5 (va_rf x) = (pw_ob σ r 7).map fun a => (s, pw_lay σ (pw_sR μ a 5 x)) := pw_pR rfl
theorem pg_M_6 : aw_gR (s, pw_lay σ μ) r 7 6 = (pw_ob σ r 7).map fun a => μ.2.2 a 6 := pw_gR rfl
theorem pp_M_6 {x : Option Nat} : aw_pV (s, pw_lay σ μ) r 7 6 (va_rf x) = (pw_ob σ r 7).map fun a => (s, pw_lay σ (pw_sR μ a 6 x)) := pw_pR rfl
theorem pg_M_7 : aw_gR (s, pw_lay σ μ) r 7 7 = (pw_ob σ r 7).map fun a => μ.2.2 a 7 := pw_gR rfl
theorem pp_M_7 {x : Option Nat} : aw_pV (s, pw_lay σ μ) r 7 7 (va_rf x) = (pw_ob σ r 7).map fun a => (s, pw_lay σ (pw_sR μ a 7 x)) := pw_pR rfl
theorem pg_M_8 : aw_gR (s, pw_lay σ μ) r 7 8 = (pw_ob σ r 7).map fun a => μ.2.2 a 8 := pw_gR rfl
theorem pp_M_8 {x : Option Nat} : aw_pV (s, pw_lay σ μ) r 7 8 (va_rf x) = (pw_ob σ r 7).map fun a => (s, pw_lay σ (pw_sR μ a 8 x)) := pw_pR rfl
theorem pg_M_9 : aw_gR (s, pw_lay σ μ) r 7 9 = (pw_ob σ r 7).map fun a => μ.2.2 a 9 := pw_gR rfl
theorem pp_M_9 {x : Option Nat} : aw_pV (s, pw_lay σ μ) r 7 9 (va_rf x) = (pw_ob σ r 7).map fun a => (s, pw_lay σ (pw_sR μ a 9 x)) := pw_pR rfl
theorem pg_M_10 : aw_gR (s, pw_lay σ μ) r 7 10 = (pw_ob σ r 7).map fun a => μ.2.2 a 10 := pw_gR rfl
theorem pp_M_10 {x : Option Nat} : aw_pV (s, pw_lay σ μ) r 7 10 (va_rf x) = (pw_ob σ r 7).map fun a => (s, pw_lay σ (pw_sR μ a 10 x)) := pw_pR rfl
theorem pg_M_11 : aw_gR (s, pw_lay σ μ) r 7 11 = (pw_ob σ r 7).map fun a => μ.2.2 a 11 := pw_gR rfl
theorem pp_M_11 {x : Option Nat} : aw_pV (s, pw_lay σ μ) r 7 11 (va_rf x) = (pw_ob σ r 7).map fun a => (s, pw_lay σ (pw_sR μ a 11 x)) := pw_pR rfl
theorem pg_M_12 : aw_gR (s, pw_lay σ μ) r 7 12 = (pw_ob σ r 7).map fun a => μ.2.2 a 12 := pw_gR rfl
theorem pp_M_12 {x : Option Nat} : aw_pV (s, pw_lay σ μ) r 7 12 (va_rf x) = (pw_ob σ r 7).map fun a => (s, pw_lay σ (pw_sR μ a 12 x)) := pw_pR rfl
theorem pg_M_13 : aw_gR (s, pw_lay σ μ) r 7 13 = (pw_ob σ r 7).map fun a => μ.2.2 a 13 := pw_gR rfl
theorem pp_M_13 {x : Option Nat} : aw_pV (s, pw_lay σ μ) r 7 13 (va_rf x) = (pw_ob σ r 7).map fun a => (s, pw_lay σ (pw_sR μ a 13 x)) := pw_pR rfl
theorem pg_M_14 : aw_gR (s, pw_lay σ μ) r 7 14 = (pw_ob σ r 7).map fun a => μ.2.2 a 14 := pw_gR rfl
theorem pp_M_14 {x : Option Nat} : aw_pV (s, pw_lay σ μ) r 7 14 (va_rf x) = (pw_ob σ r 7).map fun a => (s, pw_lay σ (pw_sR μ a 14 x)) := pw_pR rfl
theorem pg_M_15 : aw_gI (s, pw_lay σ μ) r 7 15 = (pw_ob σ r 7).map fun a => μ.1 a 15 := pw_gI rfl
theorem pp_M_15 {x : Int32} : aw_pV (s, pw_lay σ μ) r 7 15 (.int x) = (pw_ob σ r 7).map fun a => (s, pw_lay σ (pw_sI μ a 15 x)) := pw_pI rfl
theorem pg_M_16 : aw_gR (s, pw_lay σ μ) r 7 16 = (pw_ob σ r 7).map fun a => μ.2.2 a 16 := pw_gR rfl
theorem pp_M_16 {x : Option Nat} : aw_pV (s, pw_lay σ μ) r 7 16 (va_rf x) = (pw_ob σ r 7).map fun a => (s, pw_lay σ (pw_sR μ a 16 x)) := pw_pR rfl
theorem pg_M_17 : aw_gR (s, pw_lay σ μ) r 7 17 = (pw_ob σ r 7).map fun a => μ.2.2 a 17 := pw_gR rfl
theorem pp_M_17 {x : Option Nat} : aw_pV (s, pw_lay σ μ) r 7 17 (va_rf x) = (pw_ob σ r 7).map fun a => (s, pw_lay σ (pw_sR μ a 17 x)) := pw_pR rfl
theorem pg_M_18 : aw_gR (s, pw_lay σ μ) r 7 18 = (pw_ob σ r 7).map fun a => μ.2.2 a 18 := pw_gR rfl
theorem pp_M_18 {x : Option Nat} : aw_pV (s, pw_lay σ μ) r 7 18 (va_rf x) = (pw_ob σ r 7).map fun a => (s, pw_lay σ (pw_sR μ a 18 x)) := pw_pR rfl
theorem pg_M_19 : aw_gR (s, pw_lay σ μ) r 7 19 = (pw_ob σ r 7).map fun a => μ.2.2 a 19 := pw_gR rfl
theorem pp_M_19 {x : Option Nat} : aw_pV (s, pw_lay σ μ) r 7 19 (va_rf x) = (pw_ob σ r 7).map fun a => (s, pw_lay σ (pw_sR μ a 19 x)) := pw_pR rfl
theorem pg_M_20 : aw_gI (s, pw_lay σ μ) r 7 20 = (pw_ob σ r 7).map fun a => μ.1 a 20 := pw_gI rfl
theorem pp_M_20 {x : Int32} : aw_pV (s, pw_lay σ μ) r 7 20 (.int x) = (pw_ob σ r 7).map fun a => (s, pw_lay σ (pw_sI μ a 20 x)) := pw_pI rfl
theorem pg_M_21 : aw_gI (s, pw_lay σ μ) r 7 21 = (pw_ob σ r 7).map fun a => μ.1 a 21 := pw_gI rfl
theorem pp_M_21 {x : Int32} : aw_pV (s, pw_lay σ μ) r 7 21 (.int x) = (pw_ob σ r 7).map fun a => (s, pw_lay σ (pw_sI μ a 21 x)) := pw_pI rfl
theorem pg_M_22 : aw_gI (s, pw_lay σ μ) r 7 22 = (pw_ob σ r 7).map fun a => μ.1 a 22 := pw_gI rfl
theorem pp_M_22 {x : Int32} : aw_pV (s, pw_lay σ μ) r 7 22 (.int x) = (pw_ob σ r 7).map fun a => (s, pw_lay σ (pw_sI μ a 22 x)) := pw_pI rfl
theorem pg_M_23 : aw_gI (s, pw_lay σ μ) r 7 23 = (pw_ob σ r 7).map fun a => μ.1 a 23 := pw_gI rfl
theorem pp_M_23 {x : Int32} : aw_pV (s, pw_lay σ μ) r 7 23 (.int x) = (pw_ob σ r 7).map fun a => (s, pw_lay σ (pw_sI μ a 23 x)) := pw_pI rfl
theorem pg_M_24 : aw_gI (s, pw_lay σ μ) r 7 24 = (pw_ob σ r 7).map fun a => μ.1 a 24 := pw_gI rfl
theorem pp_M_24 {x : Int32} : aw_pV (s, pw_lay σ μ) r 7 24 (.int x) = (pw_ob σ r 7).map fun a => (s, pw_lay σ (pw_sI μ a 24 x)) := pw_pI rfl
theorem pg_M_25 : aw_gI (s, pw_lay σ μ) r 7 25 = (pw_ob σ r 7).map fun a => μ.1 a 25 := pw_gI rfl
theorem pp_M_25 {x : Int32} : aw_pV (s, pw_lay σ μ) r 7 25 (.int x) = (pw_ob σ r 7).map fun a => (s, pw_lay σ (pw_sI μ a 25 x)) := pw_pI rfl
theorem pg_M_26 : aw_gI (s, pw_lay σ μ) r 7 26 = (pw_ob σ r 7).map fun a => μ.1 a 26 := pw_gI rfl
theorem pp_M_26 {x : Int32} : aw_pV (s, pw_lay σ μ) r 7 26 (.int x) = (pw_ob σ r 7).map fun a => (s, pw_lay σ (pw_sI μ a 26 x)) := pw_pI rfl
theorem pg_M_27 : aw_gI (s, pw_lay σ μ) r 7 27 = (pw_ob σ r 7).map fun a => μ.1 a 27 := pw_gI rfl
theorem pp_M_27 {x : Int32} : aw_pV (s, pw_lay σ μ) r 7 27 (.int x) = (pw_ob σ r 7).map fun a => (s, pw_lay σ (pw_sI μ a 27 x)) := pw_pI rfl
theorem pg_M_28 : aw_gI (s, pw_lay σ μ) r 7 28 = (pw_ob σ r 7).map fun a => μ.1 a 28 := pw_gI rfl
theorem pp_M_28 {x : Int32} : aw_pV (s, pw_lay σ μ) r 7 28 (.int x) = (pw_ob σ r 7).map fun a => (s, pw_lay σ (pw_sI μ a 28 x)) := pw_pI rfl
end
