/-! ===== a world by addresses: what is known of the heap, as a function; arrays by the number of their type ===== -/
abbrev aw_M : Type := Nat → Option va_E
/-- the heap's size where it is known, and what lies in it -/
abbrev aw_W : Type := Option Nat × aw_M
def aw_up (dA : Nat → ClassId) (e : va_E) : va_E := match e with
  | .inl a => .inl (dA a.1, a.2)
  | .inr o => .inr o
def aw_R (D : va_G) (dA : Nat → ClassId) (w : aw_W) (H : Heap) : Prop := (∀ z, w.1 = some z → H.size = z) ∧ ∀ a e, w.2 a = some e → va_at D aCl (a, aw_up dA e) H
def aw_set (w : aw_W) (a : Nat) (e : va_E) : aw_W := (w.1, fun q => if q = a then some e else w.2 q)
def aw_add (w : aw_W) (z : Nat) (e : va_E) : aw_W := (some (z + 1), fun q => if q = z then some e else w.2 q)
/-- every cell of the world lies from the base on -/
def aw_In (base : Nat) (w : aw_W) : Prop := ∀ a e, w.2 a = some e → base ≤ a
theorem aw_set_get {w : aw_W} {a : Nat} {e : va_E} {q : Nat} : (aw_set w a e).2 q = if q = a then some e else w.2 q := rfl
theorem aw_add_get {w : aw_W} {z : Nat} {e : va_E} {q : Nat} : (aw_add w z e).2 q = if q = z then some e else w.2 q := rfl
/-! reads and writes of the world, by a reference that may be null -/
def aw_obj (w : aw_W) (r : Option Nat) (ci : Nat) : Option (Nat × List Value) := match r with
  | none => none
  | some a => match w.2 a with
    | some (.inr o) => if o.1 = ci then some (a, o.2) else none
    | _ => none
def aw_arr (w : aw_W) (r : Option Nat) (t : Nat) : Option (Nat × vp_A) := match r with
  | none => none
  | some a => match w.2 a with
    | some (.inl x) => if x.1 = t then some (a, x.2) else none
    | _ => none
theorem aw_obj_some {w : aw_W} {r : Option Nat} {ci : Nat} {q : Nat × List Value} (h : aw_obj w r ci = some q) : r = some q.1 ∧ w.2 q.1 = some (.inr (ci, q.2)) := by
  unfold aw_obj at h
  cases r with
  | none => simp at h
  | some a =>
    dsimp only at h
    cases hw : w.2 a with
    | none => rw [hw] at h; simp at h
    | some e =>
      rw [hw] at h
      cases e with
      | inl x => simp at h
      | inr o =>
        obtain ⟨o1, o2⟩ := o
        dsimp only at h
        by_cases hc : o1 = ci
        · rw [if_pos hc] at h
          cases h
          exact ⟨rfl, by rw [hw, hc]⟩
        · rw [if_neg hc] at h; simp at h
theorem aw_arr_some {w : aw_W} {r : Option Nat} {t : Nat} {q : Nat × vp_A} (h : aw_arr w r t = some q) : r = some q.1 ∧ w.2 q.1 = some (.inl (t, q.2)) := by
  unfold aw_arr at h
  cases r with
  | none => simp at h
  | some a =>
    dsimp only at h
    cases hw : w.2 a with
    | none => rw [hw] at h; simp at h
    | some e =>
      rw [hw] at h
      cases e with
      | inr x => simp at h
      | inl o =>
        obtain ⟨o1, o2⟩ := o
        dsimp only at h
        by_cases hc : o1 = t
        · rw [if_pos hc] at h
          cases h
          exact ⟨rfl, by rw [hw, hc]⟩
        · rw [if_neg hc] at h; simp at h
theorem aw_obj_of {w : aw_W} {a ci : Nat} {fs : List Value} (h : w.2 a = some (.inr (ci, fs))) : aw_obj w (some a) ci = some (a, fs) := by
  unfold aw_obj
  dsimp only
  rw [h]
  exact if_pos rfl
theorem aw_arr_of {w : aw_W} {a t : Nat} {x : vp_A} (h : w.2 a = some (.inl (t, x))) : aw_arr w (some a) t = some (a, x) := by
  unfold aw_arr
  dsimp only
  rw [h]
  exact if_pos rfl
/-- a field -/
def aw_gV (w : aw_W) (r : Option Nat) (ci k : Nat) : Option Value := (aw_obj w r ci).bind fun q => q.2[k]?
def aw_vI (v : Value) : Option Int32 := match v with
  | .int x => some x
  | _ => none
def aw_vL (v : Value) : Option Int64 := match v with
  | .long x => some x
  | _ => none
def aw_vR (v : Value) : Option (Option Nat) := match v with
  | .ref a => some (some a)
  | .null => some none
  | _ => none
def aw_gI (w : aw_W) (r : Option Nat) (ci k : Nat) : Option Int32 := (aw_gV w r ci k).bind aw_vI
def aw_gL (w : aw_W) (r : Option Nat) (ci k : Nat) : Option Int64 := (aw_gV w r ci k).bind aw_vL
def aw_gR (w : aw_W) (r : Option Nat) (ci k : Nat) : Option (Option Nat) := (aw_gV w r ci k).bind aw_vR
def aw_pV (w : aw_W) (r : Option Nat) (ci k : Nat) (v : Value) : Option aw_W := (aw_obj w r ci).bind fun q => if k < q.2.length then some (aw_set w q.1 (.inr (ci, q.2.set k v))) else none
theorem aw_vI_some {v : Value} {x : Int32} (h : aw_vI v = some x) : v = .int x := by
  cases v <;> simp [aw_vI] at h
  rw [h]
theorem aw_vL_some {v : Value} {x : Int64} (h : aw_vL v = some x) : v = .long x := by
  cases v <;> simp [aw_vL] at h
  rw [h]
theorem aw_vR_some {v : Value} {x : Option Nat} (h : aw_vR v = some x) : v = va_rf x := by
  cases v <;> simp [aw_vR] at h <;> (rw [← h]; rfl)
/-- an element -/
def aw_out (i : Int32) (n : Nat) : Prop := i < 0 ∨ n ≤ i.toNatClampNeg
def aw_ix (i : Int32) (n : Nat) : Option Nat := if i < 0 then none else if n ≤ i.toNatClampNeg then none else some i.toNatClampNeg
theorem aw_ix_some {i : Int32} {n j : Nat} (h : aw_ix i n = some j) : vp_in i n ∧ i.toNatClampNeg = j := by
  unfold aw_ix at h
  by_cases h1 : i < 0
  · rw [if_pos h1] at h; cases h
  · rw [if_neg h1] at h
    by_cases h2 : n ≤ i.toNatClampNeg
    · rw [if_pos h2] at h; cases h
    · rw [if_neg h2] at h
      exact ⟨fun q => q.elim h1 h2, Option.some.inj h⟩
theorem aw_ix_nI {j n : Nat} (h : j < n) (hn : n < 2 ^ 31) : aw_ix (nI j) n = some j := by
  have h1 := nI_pos (n := j) (by omega)
  have h2 := nI_clamp (n := j) (by omega)
  unfold aw_ix
  rw [if_neg h1, h2, if_neg (by omega)]
def aw_len (w : aw_W) (r : Option Nat) (t : Nat) : Option Int32 := (aw_arr w r t).map fun q => Int32.ofNat q.2.1
def aw_aI (w : aw_W) (r : Option Nat) (t : Nat) (i : Int32) : Option Int32 := (aw_arr w r t).bind fun q => match q.2.2 with
  | .inl f => (aw_ix i q.2.1).map f
  | _ => none
def aw_aL (w : aw_W) (r : Option Nat) (t : Nat) (i : Int32) : Option Int64 := (aw_arr w r t).bind fun q => match q.2.2 with
  | .inr (.inl f) => (aw_ix i q.2.1).map f
  | _ => none
def aw_aR (w : aw_W) (r : Option Nat) (t : Nat) (i : Int32) : Option (Option Nat) := (aw_arr w r t).bind fun q => match q.2.2 with
  | .inr (.inr (.inr (.inr f))) => (aw_ix i q.2.1).map f
  | _ => none
def aw_sI (w : aw_W) (r : Option Nat) (t : Nat) (i : Int32) (x : Int32) : Option aw_W := (aw_arr w r t).bind fun q => match q.2.2 with
  | .inl f => (aw_ix i q.2.1).map fun j => aw_set w q.1 (.inl (t, q.2.1, .inl (upd f j x)))
  | _ => none
def aw_sL (w : aw_W) (r : Option Nat) (t : Nat) (i : Int32) (x : Int64) : Option aw_W := (aw_arr w r t).bind fun q => match q.2.2 with
  | .inr (.inl f) => (aw_ix i q.2.1).map fun j => aw_set w q.1 (.inl (t, q.2.1, .inr (.inl (vp_updL f j x))))
  | _ => none
def aw_sR (w : aw_W) (r : Option Nat) (t : Nat) (i : Int32) (x : Option Nat) : Option aw_W := (aw_arr w r t).bind fun q => match q.2.2 with
  | .inr (.inr (.inr (.inr f))) => (aw_ix i q.2.1).map fun j => aw_set w q.1 (.inl (t, q.2.1, .inr (.inr (.inr (.inr (va_up f j x))))))
  | _ => none
theorem aw_aI_some {w : aw_W} {r : Option Nat} {t : Nat} {i x : Int32} (h : aw_aI w r t i = some x) : ∃ a n f, r = some a ∧ w.2 a = some (.inl (t, n, .inl f)) ∧ vp_in i n ∧ f i.toNatClampNeg = x := by
  obtain ⟨⟨a, n, g⟩, h1, h2⟩ := Option.bind_eq_some_iff.mp h
  obtain ⟨e1, e2⟩ := aw_arr_some h1
  dsimp only at e1 e2 h2
  cases g with
  | inl f =>
    obtain ⟨j, h3, h4⟩ := Option.map_eq_some_iff.mp h2
    obtain ⟨h5, h6⟩ := aw_ix_some h3
    exact ⟨a, n, f, e1, e2, h5, by rw [h6]; exact h4⟩
  | inr g => simp at h2
theorem aw_aL_some {w : aw_W} {r : Option Nat} {t : Nat} {i : Int32} {x : Int64} (h : aw_aL w r t i = some x) : ∃ a n f, r = some a ∧ w.2 a = some (.inl (t, n, .inr (.inl f))) ∧ vp_in i n ∧ f i.toNatClampNeg = x := by
  obtain ⟨⟨a, n, g⟩, h1, h2⟩ := Option.bind_eq_some_iff.mp h
  obtain ⟨e1, e2⟩ := aw_arr_some h1
  dsimp only at e1 e2 h2
  rcases g with f | f | g
  · simp at h2
  · obtain ⟨j, h3, h4⟩ := Option.map_eq_some_iff.mp h2
    obtain ⟨h5, h6⟩ := aw_ix_some h3
    exact ⟨a, n, f, e1, e2, h5, by rw [h6]; exact h4⟩
  · simp at h2
theorem aw_aR_some {w : aw_W} {r : Option Nat} {t : Nat} {i : Int32} {x : Option Nat} (h : aw_aR w r t i = some x) : ∃ a n f, r = some a ∧ w.2 a = some (.inl (t, n, .inr (.inr (.inr (.inr f))))) ∧ vp_in i n ∧ f i.toNatClampNeg = x := by
  obtain ⟨⟨a, n, g⟩, h1, h2⟩ := Option.bind_eq_some_iff.mp h
  obtain ⟨e1, e2⟩ := aw_arr_some h1
  dsimp only at e1 e2 h2
  rcases g with f | f | f | f | f
  · simp at h2
  · simp at h2
  · simp at h2
  · simp at h2
  · obtain ⟨j, h3, h4⟩ := Option.map_eq_some_iff.mp h2
    obtain ⟨h5, h6⟩ := aw_ix_some h3
    exact ⟨a, n, f, e1, e2, h5, by rw [h6]; exact h4⟩
theorem aw_sI_some {w w' : aw_W} {r : Option Nat} {t : Nat} {i x : Int32} (h : aw_sI w r t i x = some w') : ∃ a n f, r = some a ∧ w.2 a = some (.inl (t, n, .inl f)) ∧ vp_in i n ∧ w' = aw_set w a (.inl (t, n, .inl (upd f i.toNatClampNeg x))) := by
  obtain ⟨⟨a, n, g⟩, h1, h2⟩ := Option.bind_eq_some_iff.mp h
  obtain ⟨e1, e2⟩ := aw_arr_some h1
  dsimp only at e1 e2 h2
  cases g with
  | inl f =>
    obtain ⟨j, h3, h4⟩ := Option.map_eq_some_iff.mp h2
    obtain ⟨h5, h6⟩ := aw_ix_some h3
    exact ⟨a, n, f, e1, e2, h5, by rw [h6]; exact h4.symm⟩
  | inr g => simp at h2
theorem aw_sL_some {w w' : aw_W} {r : Option Nat} {t : Nat} {i : Int32} {x : Int64} (h : aw_sL w r t i x = some w') : ∃ a n f, r = some a ∧ w.2 a = some (.inl (t, n, .inr (.inl f))) ∧ vp_in i n ∧ w' = aw_set w a (.inl (t, n, .inr (.inl (vp_updL f i.toNatClampNeg x)))) := by
  obtain ⟨⟨a, n, g⟩, h1, h2⟩ := Option.bind_eq_some_iff.mp h
  obtain ⟨e1, e2⟩ := aw_arr_some h1
  dsimp only at e1 e2 h2
  rcases g with f | f | g
  · simp at h2
  · obtain ⟨j, h3, h4⟩ := Option.map_eq_some_iff.mp h2
    obtain ⟨h5, h6⟩ := aw_ix_some h3
    exact ⟨a, n, f, e1, e2, h5, by rw [h6]; exact h4.symm⟩
  · simp at h2
theorem aw_sR_some {w w' : aw_W} {r : Option Nat} {t : Nat} {i : Int32} {x : Option Nat} (h : aw_sR w r t i x = some w') : ∃ a n f, r = some a ∧ w.2 a = some (.inl (t, n, .inr (.inr (.inr (.inr f))))) ∧ vp_in i n ∧ w' = aw_set w a (.inl (t, n, .inr (.inr (.inr (.inr (va_up f i.toNatClampNeg x)))))) := by
  obtain ⟨⟨a, n, g⟩, h1, h2⟩ := Option.bind_eq_some_iff.mp h
  obtain ⟨e1, e2⟩ := aw_arr_some h1
  dsimp only at e1 e2 h2
  rcases g with f | f | f | f | f
  · simp at h2
  · simp at h2
  · simp at h2
  · simp at h2
  · obtain ⟨j, h3, h4⟩ := Option.map_eq_some_iff.mp h2
    obtain ⟨h5, h6⟩ := aw_ix_some h3
    exact ⟨a, n, f, e1, e2, h5, by rw [h6]; exact h4.symm⟩
theorem aw_pV_some {w w' : aw_W} {r : Option Nat} {ci k : Nat} {v : Value} (h : aw_pV w r ci k v = some w') : ∃ a fs, r = some a ∧ w.2 a = some (.inr (ci, fs)) ∧ k < fs.length ∧ w' = aw_set w a (.inr (ci, fs.set k v)) := by
  obtain ⟨⟨a, fs⟩, h1, h2⟩ := Option.bind_eq_some_iff.mp h
  obtain ⟨e1, e2⟩ := aw_obj_some h1
  dsimp only at e1 e2 h2
  by_cases hk : k < fs.length
  · rw [if_pos hk] at h2
    exact ⟨a, fs, e1, e2, hk, (Option.some.inj h2).symm⟩
  · rw [if_neg hk] at h2; cases h2
theorem aw_gV_some {w : aw_W} {r : Option Nat} {ci k : Nat} {v : Value} (h : aw_gV w r ci k = some v) : ∃ a fs, r = some a ∧ w.2 a = some (.inr (ci, fs)) ∧ fs[k]? = some v := by
  obtain ⟨⟨a, fs⟩, h1, h2⟩ := Option.bind_eq_some_iff.mp h
  obtain ⟨e1, e2⟩ := aw_obj_some h1
  exact ⟨a, fs, e1, e2, h2⟩
/-! the world and the heap -/
theorem aw_R.cell {D : va_G} {dA : Nat → ClassId} {w : aw_W} {H : Heap} (h : aw_R D dA w H) {a : Nat} {e : va_E} (he : w.2 a = some e) : va_P D aCl [(a, aw_up dA e)] H := by
  intro k q hk
  have hz : k < 1 := (List.getElem?_eq_some_iff.mp hk).1
  rw [show k = 0 by omega] at hk
  cases hk
  exact h.2 a e he
theorem aw_R.set {D : va_G} {dA : Nat → ClassId} {w : aw_W} {H H1 : Heap} (h : aw_R D dA w H) {a : Nat} {e : va_E} (he : va_at D aCl (a, aw_up dA e) H1) (hz : H1.size = H.size) (hq : ∀ q : Nat, q ≠ a → H1[q]? = H[q]?) : aw_R D dA (aw_set w a e) H1 := by
  refine ⟨fun z hz' => (by rw [hz]; exact h.1 z hz'), fun q e' he' => ?_⟩
  rw [aw_set_get] at he'
  by_cases hqa : q = a
  · rw [if_pos hqa] at he'
    cases he'
    rw [hqa]
    exact he
  · rw [if_neg hqa] at he'
    exact (h.2 q e' he').kept (hq q hqa)
theorem aw_R.add {D : va_G} {dA : Nat → ClassId} {w : aw_W} {H H1 : Heap} (h : aw_R D dA w H) {z : Nat} {e : va_E} (hz : H.size = z) (he : va_at D aCl (z, aw_up dA e) H1) (hz1 : H1.size = z + 1) (hq : ∀ q : Nat, q < z → H1[q]? = H[q]?) : aw_R D dA (aw_add w z e) H1 := by
  refine ⟨fun z' hz' => (by cases hz'; exact hz1), fun q e' he' => ?_⟩
  rw [aw_add_get] at he'
  by_cases hqa : q = z
  · rw [if_pos hqa] at he'
    cases he'
    rw [hqa]
    exact he
  · rw [if_neg hqa] at he'
    have hlt := (h.2 q e' he').lt
    exact (h.2 q e' he').kept (hq q (by rw [← hz]; exact hlt))
theorem aw_R.kept {D : va_G} {dA : Nat → ClassId} {w : aw_W} {H H1 : Heap} (h : aw_R D dA w H) (hq : ∀ q : Nat, q < H.size → H1[q]? = H[q]?) : aw_R D dA (none, w.2) H1 := by
  refine ⟨fun z hz => (by cases hz), fun q e he => ?_⟩
  exact (h.2 q e he).kept (hq q (h.2 q e he).lt)
theorem aw_In.set {base : Nat} {w : aw_W} (h : aw_In base w) {a : Nat} {e e0 : va_E} (ha : w.2 a = some e0) : aw_In base (aw_set w a e) := by
  intro q e' he
  rw [aw_set_get] at he
  by_cases hq : q = a
  · rw [hq]; exact h a e0 ha
  · rw [if_neg hq] at he; exact h q e' he
theorem aw_In.add {base : Nat} {w : aw_W} (h : aw_In base w) {z : Nat} {e : va_E} (hz : base ≤ z) : aw_In base (aw_add w z e) := by
  intro q e' he
  rw [aw_add_get] at he
  by_cases hq : q = z
  · rw [hq]; exact hz
  · rw [if_neg hq] at he; exact h q e' he
/-! a loop that comes to an end, as a partial function -/
def aw_it {σ τ : Type} (body : σ → Option (σ ⊕ τ)) : Nat → σ → Option τ
  | 0, _ => none
  | n + 1, s => match body s with
    | none => none
    | some (.inl s') => aw_it body n s'
    | some (.inr r) => some r
noncomputable def aw_wh {σ τ : Type} (body : σ → Option (σ ⊕ τ)) (s : σ) : Option τ :=
  match Classical.propDecidable (∃ (n : Nat) (r : τ), aw_it body n s = some r) with
  | .isTrue h => aw_it body (Classical.choose h) s
  | .isFalse _ => none
theorem aw_it_mono {σ τ : Type} {body : σ → Option (σ ⊕ τ)} : ∀ (n m : Nat) (s : σ) (r : τ), n ≤ m → aw_it body n s = some r → aw_it body m s = some r := by
  intro n
  induction n with
  | zero => intro m s r _ h; cases h
  | succ n ih =>
    intro m s r hm h
    cases m with
    | zero => omega
    | succ m =>
      simp only [aw_it] at h ⊢
      cases hb : body s with
      | none => rw [hb] at h; cases h
      | some x =>
        rw [hb] at h
        cases x with
        | inl s' => exact ih m s' r (by omega) h
        | inr r' => exact h
theorem aw_wh_it {σ τ : Type} {body : σ → Option (σ ⊕ τ)} {s : σ} {r : τ} (h : aw_wh body s = some r) : ∃ n, aw_it body n s = some r := by
  unfold aw_wh at h
  split at h
  · next hx _ => exact ⟨_, h⟩
  · cases h
theorem aw_wh_of {σ τ : Type} {body : σ → Option (σ ⊕ τ)} {s : σ} {r : τ} {n : Nat} (h : aw_it body n s = some r) : aw_wh body s = some r := by
  unfold aw_wh
  split
  · next hx _ =>
    obtain ⟨r', hr'⟩ := Classical.choose_spec hx
    rw [hr']
    rcases Nat.le_total n (Classical.choose hx) with hle | hle
    · exact hr'.symm.trans (aw_it_mono _ _ _ _ hle h)
    · exact (aw_it_mono _ _ _ _ hle hr').symm.trans h
  · next hx _ => exact absurd ⟨n, r, h⟩ hx
theorem aw_wh_in {σ τ : Type} {body : σ → Option (σ ⊕ τ)} {s s' : σ} (h : body s = some (.inl s')) : aw_wh body s = aw_wh body s' := by
  cases hw : aw_wh body s' with
  | some r =>
    obtain ⟨n, hn⟩ := aw_wh_it hw
    exact aw_wh_of (n := n + 1) (by simp only [aw_it]; rw [h]; exact hn)
  | none =>
    cases hs : aw_wh body s with
    | none => rfl
    | some r =>
      obtain ⟨n, hn⟩ := aw_wh_it hs
      cases n with
      | zero => cases hn
      | succ n =>
        simp only [aw_it] at hn
        rw [h] at hn
        rw [aw_wh_of hn] at hw
        cases hw
theorem aw_wh_out {σ τ : Type} {body : σ → Option (σ ⊕ τ)} {s : σ} {r : τ} (h : body s = some (.inr r)) : aw_wh body s = some r :=
  aw_wh_of (n := 1) (by simp only [aw_it]; rw [h])
theorem aw_wh_elim {σ τ : Type} {body : σ → Option (σ ⊕ τ)} {r : τ} (P : σ → Prop) (hP : ∀ (s : σ) (x : σ ⊕ τ), body s = some x → (∀ s', x = .inl s' → P s') → (∀ r', x = .inr r' → r' = r) → P s) {s : σ} (h : aw_wh body s = some r) : P s := by
  obtain ⟨n, hn⟩ := aw_wh_it h
  clear h
  induction n generalizing s with
  | zero => cases hn
  | succ n ih =>
    simp only [aw_it] at hn
    cases hb : body s with
    | none => rw [hb] at hn; cases hn
    | some x =>
      rw [hb] at hn
      refine hP s x hb (fun s' e => ?_) (fun r' e => ?_)
      · subst e
        exact ih hn
      · subst e
        exact Option.some.inj hn
