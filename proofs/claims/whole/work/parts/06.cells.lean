/-! ===== instructions that touch cells ===== -/
/-- the entry 'index' of the class 'own' is field k of class number ci -/
def aw_F (own : String) (index ci k : Nat) : Prop := ∃ (C : String) (T : u_T) (N : Nat), aCl[ci]? = some (C, T, N) ∧ k < N ∧ (∀ w ∈ u_ws C T N, w ∈ aw_ws) ∧
  (Cond.fieldLink own index (T k).1 (T k).2.1 (T k).2.2.1 ∈ aw_ws ∨ ∃ host, Cond.fieldLinkNest own index (T k).1 (T k).2.1 (T k).2.2.1 host ∈ aw_ws)
/-- what a store asks of a class: its fields' types, their names apart -/
def aw_C (ci : Nat) : Prop := ∃ (C : String) (T : u_T) (N : Nat) (ty0 : Nat → FieldType), aCl[ci]? = some (C, T, N) ∧ (∀ k, k < N → parseFieldDescriptor (T k).2.2.1 = some (ty0 k)) ∧ (∀ a, a < N → ∀ b, b < N → a ≠ b → (T a).2.1 ≠ (T b).2.1)
def aw_T (ci k : Nat) (ty : FieldType) (fin : Bool) : Prop := ∃ (C : String) (T : u_T) (N : Nat), aCl[ci]? = some (C, T, N) ∧ parseFieldDescriptor (T k).2.2.1 = some ty ∧ (T k).2.2.2 = fin ∧ (T k).1 = C
section
variable {Γ : aj_G} {ym : MethodName} {cc : ByteArray} {nL : Nat} {ret : Option FieldType} {rm : Room} {k : Nat × Nat} {pc : Nat} {lv : List (Nat × aV)} {st : List aV} {w w' : aw_W} {r : Option Nat} {ci kf index : Nat}
theorem j_gV {v : aV} (G : aj_ok Γ ym cc nL ret rm) (d : decode cc pc = .ok (.getfield index, 3)) (hF : aw_F ym.cls index ci kf) (e : aw_gV w r ci kf = some (aj_v v)) (h : aj_J Γ nL k (pc + 3) lv (v :: st) w) : aj_J Γ nL k pc lv (aRf r :: st) w := by
  intro ls H locs h1 h2 h3 h4
  obtain ⟨a, fs, rfl, ha, hv⟩ := aw_gV_some e
  obtain ⟨C, T, N, hc, hk, hU, hl⟩ := hF
  have hP := h2.cell ha
  rcases hl with hl | ⟨host, hl⟩
  · exact va_get G.1 G.2.1 (Ts := u_ws C T N) (fun w hw => G.word (hU w hw)) (fun w hw => hw) G.own G.K.1 hP 0 rfl hc kf hk (G.word hl) (fun x hx => hx) hv d (h ls H locs h1 h2 h3 h4)
  · exact va_getN G.1 G.2.1 (Ts := u_ws C T N) (fun w hw => G.word (hU w hw)) (fun w hw => hw) G.own G.K.1 hP 0 rfl hc kf hk (G.word hl) (fun x hx => hx) hv d (h ls H locs h1 h2 h3 h4)
theorem j_gI {x : Int32} (G : aj_ok Γ ym cc nL ret rm) (d : decode cc pc = .ok (.getfield index, 3)) (hF : aw_F ym.cls index ci kf) (e : aw_gI w r ci kf = some x) (h : aj_J Γ nL k (pc + 3) lv (aI x :: st) w) : aj_J Γ nL k pc lv (aRf r :: st) w := by
  obtain ⟨v, e1, e2⟩ := Option.bind_eq_some_iff.mp e
  rw [aw_vI_some e2] at e1
  exact j_gV (v := aI x) G d hF e1 h
theorem j_gL {x : Int64} (G : aj_ok Γ ym cc nL ret rm) (d : decode cc pc = .ok (.getfield index, 3)) (hF : aw_F ym.cls index ci kf) (e : aw_gL w r ci kf = some x) (h : aj_J Γ nL k (pc + 3) lv (aL x :: st) w) : aj_J Γ nL k pc lv (aRf r :: st) w := by
  obtain ⟨v, e1, e2⟩ := Option.bind_eq_some_iff.mp e
  rw [aw_vL_some e2] at e1
  exact j_gV (v := aL x) G d hF e1 h
theorem j_gR {x : Option Nat} (G : aj_ok Γ ym cc nL ret rm) (d : decode cc pc = .ok (.getfield index, 3)) (hF : aw_F ym.cls index ci kf) (e : aw_gR w r ci kf = some x) (h : aj_J Γ nL k (pc + 3) lv (aRf x :: st) w) : aj_J Γ nL k pc lv (aRf r :: st) w := by
  obtain ⟨v, e1, e2⟩ := Option.bind_eq_some_iff.mp e
  rw [aw_vR_some e2] at e1
  exact j_gV (v := aRf x) G d hF e1 h
theorem j_pV {v : aV} {ty : FieldType} (G : aj_ok Γ ym cc nL ret rm) (d : decode cc pc = .ok (.putfield index, 3)) (hF : aw_F ym.cls index ci kf) (hC : aw_C ci) (hT : aw_T ci kf ty false) (hn : narrow ty (aj_v v) = aj_v v) (hf : fits ty (aj_v v) = true) (e : aw_pV w r ci kf (aj_v v) = some w') (h : aj_J Γ nL k (pc + 3) lv st w') : aj_J Γ nL k pc lv (v :: aRf r :: st) w := by
  intro ls H locs h1 h2 h3 h4
  obtain ⟨a, fs, rfl, ha, hlt, rfl⟩ := aw_pV_some e
  obtain ⟨C, T, N, hc, hk, hU, hl⟩ := hF
  obtain ⟨C2, T2, N2, ty0, hc2, hty, hnm⟩ := hC
  cases Option.some.inj (hc2.symm.trans hc)
  obtain ⟨C3, T3, N3, hc3, hd, hfin, -⟩ := hT
  cases Option.some.inj (hc3.symm.trans hc)
  have hts : ∀ w ∈ u_ws C T N, w.before (ga Γ) (gs Γ) = true := fun w hw => G.word (hU w hw)
  have hap := va_apart (own := ym.cls) hts (fun w hw => hw) ty0 hty hnm G.K.1 hc
  obtain ⟨q, hq, cell, q1, q2, q3, q4⟩ := h2.2 a _ ha
  cases Option.some.inj (hq.symm.trans hc)
  obtain ⟨hS, hfc, kC, hkC, hkind⟩ := G.K.1.1 ci _ hc
  obtain ⟨cf, kf', fi, f, hi, hsl⟩ := hS kf hk
  have hlay := hts _ (u_in_lay hk)
  unfold u_lay at hlay
  rw [if_neg (by rw [hfin]; decide)] at hlay
  have hst := (u_facts hfc hkC (u_lays hts (fun w hw => hw) hk) hi).1
  have h6 := u_store hfc hkC hkind hlay hi hd hn hf
  have goal : ∀ (H' : Heap), H'[a]? = some (cell.setSlot f.slot (aj_v v)) → H'.size = H.size → (∀ q : Nat, q ≠ a → H'[q]? = H[q]?) → W (gp Γ) (gl Γ) (ge Γ) (gR Γ) (gs Γ) (gm Γ) (ga Γ) (gb Γ) (gme Γ) (gc Γ) H' (locs ++ [⟨a, f.slot⟩]) k.1 k.2 (gQ Γ) (F0 (gm Γ) (pc + 3) ls (st.map aj_v)) := by
    intro H' e1 e2 e3
    rw [hsl] at e1
    exact h ls H' _ h1 (h2.set ⟨_, hc, t_OB.to (V := updV (vp_V fs) kf (aj_v v)) ⟨_, e1, q2, q3, t_set q4 hap hk (aj_v v)⟩ (fun j _ => vp_updV_set hlt (aj_v v) j)⟩ e2 e3) (h3.set ha) (h4.put e2 e3 (h3 a _ ha))
  rcases hl with hl | ⟨host, hl⟩
  · exact W.putK G.1 G.2.1 (f := f) ⟨G.own, G.word hl, ⟨_, _, _, hi⟩, hst⟩ (by rw [q2]; exact h6) q1 q3 (by rw [hsl]; exact k2_hasslot (q4 kf hk)) rfl rfl d goal
  · exact va_WputK G.1 G.2.1 (f := f) G.own (G.word hl) hi hst (by rw [q2]; exact h6) q1 q3 (by rw [hsl]; exact k2_hasslot (q4 kf hk)) rfl rfl d goal
/-- a final field, in a constructor of its own type -/
theorem j_pF {v : aV} {ty : FieldType} (G : aj_ok Γ ym cc nL ret rm) (d : decode cc pc = .ok (.putfield index, 3)) (hF : aw_F ym.cls index ci kf) (hC : aw_C ci) (hT : aw_T ci kf ty true) (hy : ym.name = "<init>") (hown : (aCl[ci]?).map (fun q => q.1) = some ym.cls) (hlk : ∀ C T N, aCl[ci]? = some (C, T, N) → Cond.fieldLink ym.cls index (T kf).1 (T kf).2.1 (T kf).2.2.1 ∈ aw_ws) (hn : narrow ty (aj_v v) = aj_v v) (hf : fits ty (aj_v v) = true) (e : aw_pV w r ci kf (aj_v v) = some w') (h : aj_J Γ nL k (pc + 3) lv st w') : aj_J Γ nL k pc lv (v :: aRf r :: st) w := by
  intro ls H locs h1 h2 h3 h4
  obtain ⟨a, fs, rfl, ha, hlt, rfl⟩ := aw_pV_some e
  obtain ⟨C, T, N, hc, hk, hU, -⟩ := hF
  obtain ⟨C2, T2, N2, ty0, hc2, hty, hnm⟩ := hC
  cases Option.some.inj (hc2.symm.trans hc)
  obtain ⟨C3, T3, N3, hc3, hd, hfin, hdecl⟩ := hT
  cases Option.some.inj (hc3.symm.trans hc)
  rw [hc] at hown
  have hown : C = ym.cls := Option.some.inj hown
  have hl := hlk C T N hc
  have hts : ∀ w ∈ u_ws C T N, w.before (ga Γ) (gs Γ) = true := fun w hw => G.word (hU w hw)
  have hap := va_apart (own := ym.cls) hts (fun w hw => hw) ty0 hty hnm G.K.1 hc
  obtain ⟨q, hq, cell, q1, q2, q3, q4⟩ := h2.2 a _ ha
  cases Option.some.inj (hq.symm.trans hc)
  obtain ⟨hS, hfc, kC, hkC, hkind⟩ := G.K.1.1 ci _ hc
  obtain ⟨cf, kf', fi, f, hi, hsl⟩ := hS kf hk
  have hlay := hts _ (u_in_lay hk)
  unfold u_lay at hlay
  rw [if_pos hfin] at hlay
  have hst := (u_facts hfc hkC (u_lays hts (fun w hw => hw) hk) hi).1
  have hcf : (gm Γ).cls = cf := by
    obtain ⟨_, _, c', _, _, _, -, -, hf', -, -, -, hown2, -⟩ := Cond.laysFinal_spec hlay
    have e1 : c' = cf := by have := hi.symm.trans hf'; simp at this; exact this.1.symm
    rw [hdecl, hown] at hown2
    rw [← e1]; exact Option.some.inj (G.own.symm.trans hown2)
  have h6 := u_fits hfc hkC hkind (Or.inr hlay) hi hd hn hf
  refine W.putFinK G.1 G.2.1 G.own (G.word hl) hi hst hcf (G.name hy) (by rw [q2]; exact h6) q1 q3 (by rw [hsl]; exact k2_hasslot (q4 kf hk)) rfl rfl d ?_
  intro H' e1 e2 e3
  rw [hsl] at e1
  exact h ls H' _ h1 (h2.set ⟨_, hc, t_OB.to (V := updV (vp_V fs) kf (aj_v v)) ⟨_, e1, q2, q3, t_set q4 hap hk (aj_v v)⟩ (fun j _ => vp_updV_set hlt (aj_v v) j)⟩ e2 e3) (h3.set ha) (h4.put e2 e3 (h3 a _ ha))
/-! arrays -/
theorem j_alen {t : Nat} {ty : FieldType} {n : Int32} (G : aj_ok Γ ym cc nL ret rm) (d : decode cc pc = .ok (.arraylength, 1)) (ht : (aw_tys (gA Γ))[t]? = some (gA Γ t, ty)) (e : aw_len w r t = some n) (h : aj_J Γ nL k (pc + 1) lv (aI n :: st) w) : aj_J Γ nL k pc lv (aRf r :: st) w := by
  intro ls H locs h1 h2 h3 h4
  obtain ⟨⟨a, x⟩, e1, e2⟩ := Option.map_eq_some_iff.mp e
  obtain ⟨rfl, ha⟩ := aw_arr_some e1
  exact va_alen G.1 G.2.1 G.K.1 (h2.cell ha) 0 t rfl ht e2 d (h ls H locs h1 h2 h3 h4)
theorem j_bald {i x : Int32} (G : aj_ok Γ ym cc nL ret rm) (d : decode cc pc = .ok (.baload, 1)) (e : aw_aI w r 0 i = some x) (h : aj_J Γ nL k (pc + 1) lv (aI x :: st) w) : aj_J Γ nL k pc lv (aI i :: aRf r :: st) w := by
  intro ls H locs h1 h2 h3 h4
  obtain ⟨a, n, f, rfl, ha, hin, rfl⟩ := aw_aI_some e
  exact va_bald G.1 G.2.1 G.K.1 (h2.cell ha) 0 0 rfl rfl hin d (h ls H locs h1 h2 h3 h4)
theorem j_iald {i x : Int32} (G : aj_ok Γ ym cc nL ret rm) (d : decode cc pc = .ok (.iaload, 1)) (e : aw_aI w r 1 i = some x) (h : aj_J Γ nL k (pc + 1) lv (aI x :: st) w) : aj_J Γ nL k pc lv (aI i :: aRf r :: st) w := by
  intro ls H locs h1 h2 h3 h4
  obtain ⟨a, n, f, rfl, ha, hin, rfl⟩ := aw_aI_some e
  exact va_iald G.1 G.2.1 G.K.1 (h2.cell ha) 0 1 rfl rfl hin d (h ls H locs h1 h2 h3 h4)
theorem j_zald {i x : Int32} (G : aj_ok Γ ym cc nL ret rm) (d : decode cc pc = .ok (.baload, 1)) (e : aw_aI w r 3 i = some x) (h : aj_J Γ nL k (pc + 1) lv (aI x :: st) w) : aj_J Γ nL k pc lv (aI i :: aRf r :: st) w := by
  intro ls H locs h1 h2 h3 h4
  obtain ⟨a, n, f, rfl, ha, hin, rfl⟩ := aw_aI_some e
  exact va_zald G.1 G.2.1 G.K.1 (h2.cell ha) 0 3 rfl rfl hin d (h ls H locs h1 h2 h3 h4)
theorem j_lald {i : Int32} {x : Int64} (G : aj_ok Γ ym cc nL ret rm) (d : decode cc pc = .ok (.laload, 1)) (e : aw_aL w r 2 i = some x) (h : aj_J Γ nL k (pc + 1) lv (aL x :: st) w) : aj_J Γ nL k pc lv (aI i :: aRf r :: st) w := by
  intro ls H locs h1 h2 h3 h4
  obtain ⟨a, n, f, rfl, ha, hin, rfl⟩ := aw_aL_some e
  exact va_lald G.1 G.2.1 G.K.1 (h2.cell ha) 0 2 rfl rfl hin d (h ls H locs h1 h2 h3 h4)
theorem j_aald {t : Nat} {C : String} {i : Int32} {x : Option Nat} (G : aj_ok Γ ym cc nL ret rm) (d : decode cc pc = .ok (.aaload, 1)) (ht : (aw_tys (gA Γ))[t]? = some (gA Γ t, .object C)) (e : aw_aR w r t i = some x) (h : aj_J Γ nL k (pc + 1) lv (aRf x :: st) w) : aj_J Γ nL k pc lv (aI i :: aRf r :: st) w := by
  intro ls H locs h1 h2 h3 h4
  obtain ⟨a, n, f, rfl, ha, hin, rfl⟩ := aw_aR_some e
  exact va_aldq G.1 G.2.1 G.K.1 (h2.cell ha) 0 t rfl ht hin d (h ls H locs h1 h2 h3 h4)
theorem aj_updV_i (f : Nat → Int32) (j : Nat) (x : Int32) : updV (fun q => Value.int (f q)) j (.int x) = fun q => Value.int (upd f j x q) := by
  funext q
  by_cases hq : q = j
  · subst hq; simp [updV, upd]
  · simp [updV, upd, hq]
theorem j_bast {i x : Int32} (G : aj_ok Γ ym cc nL ret rm) (d : decode cc pc = .ok (.bastore, 1)) (e : aw_sI w r 0 i x.toInt8.toInt32 = some w') (h : aj_J Γ nL k (pc + 1) lv st w') : aj_J Γ nL k pc lv (aI x :: aI i :: aRf r :: st) w := by
  intro ls H locs h1 h2 h3 h4
  obtain ⟨a, n, f, rfl, ha, hin, rfl⟩ := aw_sI_some e
  refine W.bast G.1 G.2.1 (h2.2 a _ ha) ((G.K.1.2 0 _ rfl).1 n (fun j => .int (f j))) (fun q => by cases q) (by show ¬ (i < 0 ∨ (arrV _ _ _).slots.size ≤ _); rw [arrV_size]; exact hin) rfl rfl d fun H1 e1 z oq => ?_
  refine h ls H1 _ h1 (h2.set ?_ z oq) (h3.set ha) (h4.put z oq (h3 a _ ha))
  show H1[a]? = some (vp_cell _ _)
  rw [e1]
  show some ((vp_cell (gA Γ 0) (n, .inl f)).setSlot _ _) = some (vp_cell (gA Γ 0) (n, _))
  rw [vp_cell_i, vp_cell_i, arrV_store]
  exact congrArg (fun g => some (arrV (gA Γ 0) n g)) (aj_updV_i f _ _)
theorem j_iast {i x : Int32} (G : aj_ok Γ ym cc nL ret rm) (d : decode cc pc = .ok (.iastore, 1)) (e : aw_sI w r 1 i x = some w') (h : aj_J Γ nL k (pc + 1) lv st w') : aj_J Γ nL k pc lv (aI x :: aI i :: aRf r :: st) w := by
  intro ls H locs h1 h2 h3 h4
  obtain ⟨a, n, f, rfl, ha, hin, rfl⟩ := aw_sI_some e
  refine W.iast G.1 G.2.1 (h2.2 a _ ha) ((G.K.1.2 1 _ rfl).1 n (fun j => .int (f j))) (fun q => by cases q) (by show ¬ (i < 0 ∨ (arrV _ _ _).slots.size ≤ _); rw [arrV_size]; exact hin) rfl rfl d fun H1 e1 z oq => ?_
  refine h ls H1 _ h1 (h2.set ?_ z oq) (h3.set ha) (h4.put z oq (h3 a _ ha))
  show H1[a]? = some (vp_cell _ _)
  rw [e1]
  show some ((vp_cell (gA Γ 1) (n, .inl f)).setSlot _ _) = some (vp_cell (gA Γ 1) (n, _))
  rw [vp_cell_i, vp_cell_i, arrV_store]
  exact congrArg (fun g => some (arrV (gA Γ 1) n g)) (aj_updV_i f _ _)
theorem j_zast {i x : Int32} (G : aj_ok Γ ym cc nL ret rm) (d : decode cc pc = .ok (.bastore, 1)) (hx : narrow .boolean (.int x) = .int x) (e : aw_sI w r 3 i x = some w') (h : aj_J Γ nL k (pc + 1) lv st w') : aj_J Γ nL k pc lv (aI x :: aI i :: aRf r :: st) w := by
  intro ls H locs h1 h2 h3 h4
  obtain ⟨a, n, f, rfl, ha, hin, rfl⟩ := aw_sI_some e
  refine W.zast G.1 G.2.1 (h2.2 a _ ha) ((G.K.1.2 3 _ rfl).1 n (fun j => .int (f j))) (fun q => by cases q) (by show ¬ (i < 0 ∨ (arrV _ _ _).slots.size ≤ _); rw [arrV_size]; exact hin) rfl rfl d fun H1 e1 z oq => ?_
  refine h ls H1 _ h1 (h2.set ?_ z oq) (h3.set ha) (h4.put z oq (h3 a _ ha))
  show H1[a]? = some (vp_cell _ _)
  rw [e1, hx]
  show some ((vp_cell (gA Γ 3) (n, .inl f)).setSlot _ _) = some (vp_cell (gA Γ 3) (n, _))
  rw [vp_cell_i, vp_cell_i, arrV_store]
  exact congrArg (fun g => some (arrV (gA Γ 3) n g)) (aj_updV_i f _ _)
theorem j_last {i : Int32} {x : Int64} (G : aj_ok Γ ym cc nL ret rm) (d : decode cc pc = .ok (.lastore, 1)) (e : aw_sL w r 2 i x = some w') (h : aj_J Γ nL k (pc + 1) lv st w') : aj_J Γ nL k pc lv (aL x :: aI i :: aRf r :: st) w := by
  intro ls H locs h1 h2 h3 h4
  obtain ⟨a, n, f, rfl, ha, hin, rfl⟩ := aw_sL_some e
  refine W.last G.1 G.2.1 (h2.2 a _ ha) ((G.K.1.2 2 _ rfl).1 n (fun j => .long (f j))) (fun q => by cases q) (by show ¬ (i < 0 ∨ (arrV _ _ _).slots.size ≤ _); rw [arrV_size]; exact hin) rfl rfl d fun H1 e1 z oq => ?_
  refine h ls H1 _ h1 (h2.set ?_ z oq) (h3.set ha) (h4.put z oq (h3 a _ ha))
  show H1[a]? = some (vp_cell _ _)
  rw [e1]
  show some ((vp_cell (gA Γ 2) (n, .inr (.inl f))).setSlot _ _) = some (vp_cell (gA Γ 2) (n, _))
  rw [vp_cell_l, vp_cell_l, arrV_store]
  refine congrArg (fun g => some (arrV (gA Γ 2) n g)) ?_
  funext q
  by_cases hq : q = i.toNatClampNeg
  · subst hq; simp [updV, vp_updL]
  · simp [updV, vp_updL, hq]
/-- a reference into an array of its own kind -/
theorem j_aast {t cv : Nat} {T : u_T} {N : Nat} {C : String} {i : Int32} {x : Option Nat} {q0 : Nat × List Value} (G : aj_ok Γ ym cc nL ret rm) (d : decode cc pc = .ok (.aastore, 1)) (ht : (aw_tys (gA Γ))[t]? = some (gA Γ t, .object C)) (hc : aCl[cv]? = some (C, T, N)) (hx : aw_obj w x cv = some q0) (e : aw_sR w r t i x = some w') (h : aj_J Γ nL k (pc + 1) lv st w') : aj_J Γ nL k pc lv (aRf x :: aI i :: aRf r :: st) w := by
  intro ls H locs h1 h2 h3 h4
  obtain ⟨a, n, f, rfl, ha, hin, rfl⟩ := aw_sR_some e
  obtain ⟨rfl, hx1⟩ := aw_obj_some hx
  have hlt : i.toNatClampNeg < n := Nat.not_le.mp fun q => hin (Or.inr q)
  have h0 : ¬ i < 0 := fun q => hin (Or.inl q)
  obtain ⟨r', hr', cellV, g1, g2, g3, -⟩ := h2.2 _ _ hx1
  have hcls := (G.K.1.1 cv _ hc).2
  obtain ⟨kA, comp, k1, k2, k3, -⟩ := (G.K.1.2 t _ ht).2
  have hcomp : comp = (gD Γ).1 cv := Option.some.inj (k3.symm.trans hcls.1)
  subst hcomp
  obtain ⟨kC, hkC, hkk⟩ := hcls.2
  refine W.aast G.1 G.2.1 (h2.2 a _ ha) (fun q h => by cases h) (fun h => by cases h) k1 k2 rfl hkC ⟨h0, by show _ < (arrV _ _ _).slots.size; rw [arrV_size]; exact hlt⟩ g1 (fun q h => by rw [g3] at h; cases h) (by rw [g2]; exact hkC) (by rw [g2]; exact va_assign hcls) rfl rfl d fun H1 e1 z oq => ?_
  refine h ls H1 _ h1 (h2.set ?_ z oq) (h3.set ha) (h4.put z oq (h3 a _ ha))
  show H1[a]? = some (vp_cell _ _)
  rw [e1]
  show some ((vp_cell (gA Γ t) (n, .inr (.inr (.inr (.inr f))))).setSlot _ _) = some (vp_cell (gA Γ t) (n, _))
  rw [vp_cell_q, vp_cell_q, arrV_store]
  refine congrArg (fun g => some (arrV (gA Γ t) n g)) ?_
  funext q
  by_cases hq : q = i.toNatClampNeg
  · subst hq; simp [updV, va_up, va_rf]
  · simp [updV, va_up, hq]
end
