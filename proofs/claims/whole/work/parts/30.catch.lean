/-! ===== methods with handlers ===== -/
def aj_look (cn : List (Nat × String)) (i : Nat) : Option String := match cn with
  | [] => none
  | q :: t => if q.1 = i then some q.2 else aj_look t i
theorem aj_look_mem {cn : List (Nat × String)} {i : Nat} {T : String} (h : aj_look cn i = some T) : (i, T) ∈ cn := by
  induction cn with
  | nil => cases h
  | cons q t ih =>
    unfold aj_look at h
    by_cases hq : q.1 = i
    · rw [if_pos hq] at h
      cases h
      rw [← hq]
      exact List.mem_cons_self
    · rw [if_neg hq] at h
      exact List.mem_cons_of_mem _ (ih h)
/-- where an object of the class E that is thrown at pc is caught -/
def aj_pick (pc : Nat) (cn : List (Nat × String)) (E : String) : List (Nat × Nat × Nat × Nat) → Option Nat
  | [] => none
  | q :: t => if (decide (q.1 ≤ pc) && decide (pc < q.2.1)) = true then (match aj_look cn q.2.2.2 with
    | some T => if T = E then some q.2.2.1 else aj_pick pc cn E t
    | none => none) else aj_pick pc cn E t
theorem aj_go {s : State} {e : Env} {f : JFrame} {a : Addr} {cell : Cell} {E : String} {cn : List (Nat × String)}
    (hl : ∀ q ∈ cn, q.1 ≠ 0 ∧ ∃ c, s.vm.findClass q.2 = some c ∧ s.vm.ClassLinks e.platform f.method.cls q.1 c) (hE : s.vm.findClass E = some cell.cls) (hn : ∀ q ∈ cn, q.2 ≠ E → va_Nc E q.2 s) (hcv : cell.vm = .none) :
    ∀ (hh : List (Nat × Nat × Nat × Nat)) (u : State) (hpc : Nat), s.WarmedH u.vm → u.heap[a]? = some cell → aj_pick f.pc cn E hh = some hpc →
      ∃ vm' : Vm, s.WarmedH vm' ∧ ∀ (Q : Handler → Pre) (Ec : CtlPost) (d : Bool) (acts : List Action), Q (.found hpc) d acts (u.setVm vm') → wp (findHandler.go f a (tableOf hh)) Q Ec e d acts u := by
  intro hh
  induction hh with
  | nil => intro u hpc _ _ hp; cases hp
  | cons q t ih =>
    intro u hpc hW hc hp
    unfold aj_pick at hp
    by_cases hcov : (decide (q.1 ≤ f.pc) && decide (f.pc < q.2.1)) = true
    · rw [if_pos hcov] at hp
      cases hlk : aj_look cn q.2.2.2 with
      | none => rw [hlk] at hp; cases hp
      | some Tn =>
        rw [hlk] at hp
        obtain ⟨h0, c, hfc, hcl⟩ := hl _ (aj_look_mem hlk)
        obtain ⟨hg, hW1, hr⟩ := State.classEntry (e := e) hW hcl
        have hsz : (u.vm.noted f.method.cls q.2.2.2 (.cls c)).classes.size ≤ u.vm.classes.size := by no_record
        generalize u.vm.noted f.method.cls q.2.2.2 (.cls c) = vm1 at hg hW1 hr hsz
        have hx : covers (⟨q.1, q.2.1, q.2.2.1, q.2.2.2⟩ : ExceptionTableEntry) f.pc = true := hcov
        obtain ⟨ha, hta⟩ := hg.op (op := VmOp.resolveClass f.method.cls q.2.2.2) rfl
        have key : ∀ (Q : Handler → Pre) (Ec : CtlPost) (d : Bool) (acts : List Action), wp (findHandler.go f a (tableOf (q :: t))) Q Ec e d acts u ↔ wp (findHandler.go f a (tableOf (q :: t))) Q Ec e d acts (u.setVm vm1) := by
          intro Q Ec d acts
          obtain ⟨kd, hkd, hres⟩ := hr
          simp only [covers] at hx
          simp only [tableOf, List.map_cons]
          simp [findHandler.go, hx, h0, resolveClass_memo e hkd hres, ha, hta, hsz, VmOp.dirties, VmOp.acts]
          exact Iff.rfl
        obtain ⟨ks, hks, -⟩ := Vm.findClass_spec hE
        obtain ⟨kt, hkt, -⟩ := Vm.findClass_spec hfc
        obtain ⟨ks', hks', -⟩ := hW1.alike.2.2 _ _ hks
        obtain ⟨kt', hkt', -⟩ := hW1.alike.2.2 _ _ hkt
        have hobj : ∀ k, cell.vm ≠ .statics k := by rw [hcv]; intro k h; cases h
        have go2 := fun (Q : Handler → Pre) (Ec : CtlPost) (d : Bool) (acts : List Action) => W.findHandler_go_class (E := Ec) (e := e) (d := d) (acts := acts) (Q := Q) (s := u.setVm vm1) (f := f) (a := a) (t := tableOf t) hx h0 hr (show (u.setVm vm1).heap[a]? = some cell from hc) hobj ⟨ks', hks'⟩ ⟨kt', hkt'⟩
        by_cases hTE : Tn = E
        · subst hTE
          simp only [if_true] at hp
          cases hp
          cases hE.symm.trans hfc
          have hasg : (u.setVm vm1).vm.assignable cell.cls cell.cls = true := by
            show vm1.assignableAux (255 + 1) cell.cls cell.cls = true
            rw [Vm.assignableAux, Bool.or_eq_true, beq_iff_eq]
            exact Or.inl rfl
          refine ⟨vm1, hW1, fun Q Ec d acts hQ => ?_⟩
          rw [key]
          refine (go2 Q Ec d acts).mpr ?_
          rw [if_pos hasg]
          exact hQ
        · simp only [if_neg hTE] at hp
          obtain ⟨c1, t1, f1, f2, f3⟩ := hn _ (aj_look_mem hlk) hTE
          cases hE.symm.trans f1
          cases hfc.symm.trans f2
          have hasg : (u.setVm vm1).vm.assignable cell.cls c = false := (hW1.alike.assignable ..).trans f3
          obtain ⟨vm', hW', hQ'⟩ := ih (u.setVm vm1) hpc hW1 hc hp
          refine ⟨vm', hW', fun Q Ec d acts hQ => ?_⟩
          rw [key]
          refine (go2 Q Ec d acts).mpr ?_
          rw [if_neg (by rw [hasg]; exact Bool.false_ne_true)]
          exact hQ' Q Ec d acts hQ
    · rw [if_neg hcov] at hp
      obtain ⟨vm', hW', hQ'⟩ := ih u hpc hW hc hp
      refine ⟨vm', hW', fun Q Ec d acts hQ => ?_⟩
      exact (W.findHandler_go_skip (x := ⟨q.1, q.2.1, q.2.2.1, q.2.2.2⟩) (t := tableOf t) (Bool.not_eq_true _ ▸ hcov)).mpr (hQ' Q Ec d acts hQ)
theorem aj_caught {tb : Tables} {e : Env} {s target : State} {g : JFrame} {c : Code} {below : List Frame} {a : Addr} (h : At s g.method c below) {pc : Nat} {vm' : Vm}
    (hfind : ∀ (Q : Handler → Pre) (E : CtlPost) (d : Bool) (acts : List Action), Q (.found pc) d acts (((s.setTop g).pushFrame (.throwing a)).setVm vm') → wp (findHandler g a) Q E e d acts ((s.setTop g).pushFrame (.throwing a)))
    (hrest : Steps tb e below ((s.setVm vm').setTop { g with pc := pc, stack := [.ref a] }) target) : Steps tb e below ((s.setTop g).pushFrame (.throwing a)) target := by
  obtain ⟨hgo, hw⟩ := h.throwing a
  refine Steps.head hgo hw ?_
  obtain ⟨g₀, hg⟩ := Option.isSome_iff_exists.mp h.top
  obtain ⟨r, hr⟩ := State.topJava?_eq_some.mp hg
  have hst : (stepThrowing e ((s.setTop g).pushFrame (.throwing a)) a (.java g :: s.frames.tail)).1 = (((s.setTop g).pushFrame (.throwing a)).setVm vm').setFrames (.java { g with pc := pc, stack := [.ref a] } :: s.frames.tail) := by
    simp only [stepThrowing, searchFrame, vmDo]
    generalize hr9 : Sem.go _ e false [] _ = res
    obtain ⟨as, rfl, -⟩ := Sem.eq_ok_of hr9 (a := Handler.found pc) (s' := ((s.setTop g).pushFrame (.throwing a)).setVm vm') (acts' := []) (by
      rw [wp_bind']
      exact hfind _ _ _ _ (by simp))
    rfl
  rw [stepThread_throwing (frames_entered h.top _), hst]
  have e1 : (((s.setTop g).pushFrame (.throwing a)).setVm vm').setFrames (.java { g with pc := pc, stack := [.ref a] } :: s.frames.tail) = (s.setVm vm').setTop { g with pc := pc, stack := [.ref a] } := by
    have hr' : (s.setVm vm').frames = .java g₀ :: r := hr
    rw [State.setTop_of_frames _ hr', State.setTop_of_frames _ hr, hr]
    show ((((s.setFrames (.java g :: r)).pushFrame (.throwing a)).setFrames (.java { g with pc := pc, stack := [.ref a] } :: r)).setVm vm') = (s.setFrames (.java { g with pc := pc, stack := [.ref a] } :: r)).setVm vm'
    rw [State.pushFrame, State.setFrames_setFrames, State.setFrames_setFrames]
  rw [e1]
  exact hrest
/-! the contract of a method with handlers out of which nothing is thrown -/
def aj_Ch (l : Launch) (D : va_G) (dA : Nat → ClassId) (base : Nat) (M : aj_M) (hh : List (Nat × Nat × Nat × Nat)) (rm : Room) (av : List aV) (w : aw_W) (post : Option aV → aw_W → Prop) : Prop :=
  MetFree l M.1 (headSpec [Cond.codeWith M.1 M.2.1 M.2.2.1 M.2.2.2 hh] rm) (aj_Pc D dA base av w) (fun _ _ _ _ _ => True) (aj_xQ D dA base rm post (fun _ _ => False))
def aj_finH (Γ : aj_G) (hh : List (Nat × Nat × Nat × Nat)) (rm : Room) (post : Option aV → aw_W → Prop) : Prop :=
  gQ Γ = (fun t => ∃ o, t.status = .running ∧ Ended t (gb Γ) o ∧ aj_xQ (gD Γ) (gA Γ) (gB Γ) rm post (fun _ _ => False) (ga Γ) (gs Γ) o t) ∧ (gc Γ).exceptionTable.toList = tableOf hh
theorem aj_finH.fin {Γ : aj_G} {hh : List (Nat × Nat × Nat × Nat)} {rm : Room} {post : Option aV → aw_W → Prop} (F : aj_finH Γ hh rm post) : aj_fin Γ rm post := by
  intro H locs g h T hT X
  obtain ⟨t, a1, o, b1, b2, b3, b4⟩ := h T hT X
  refine ⟨t, a1, ?_⟩
  rw [F.1]
  exact ⟨o, b1, b2, Or.inl ⟨b3, b4⟩⟩
theorem aj_enterH {l : Launch} {D : va_G} {dA : Nat → ClassId} {base : Nat} {M : aj_M} {hh : List (Nat × Nat × Nat × Nat)} {rm : Room} {av : List aV} {w : aw_W} {post : Option aV → aw_W → Prop} (hl : l.stackTraces = false) (hy : plainName M.1.cls = true) (hn : aj_wd av ≤ M.2.2.1)
    (body : ∀ Γ : aj_G, aj_ok Γ M.1 M.2.1 M.2.2.1 M.2.2.2 rm → aj_finH Γ hh rm post → aj_J Γ M.2.2.1 (0, 0) 0 (aj_args 0 av) [] w) : aj_Ch l D dA base M hh rm av w post := by
  refine MetFree.of_bodyS (code := M.2.1) (maxLocals := M.2.2.1) (ret := M.2.2.2) hy ?_ ?_
  · intro args s m h hn
    obtain ⟨m9, meth, c, h0, h1, h2, h3, h4, -, h5, h6, -⟩ := Cond.codeWith_spec (show (Cond.codeWith M.1 M.2.1 M.2.2.1 M.2.2.2 hh).before args s = true from atoms_spec (ws := [Cond.codeWith M.1 M.2.1 M.2.2.1 M.2.2.2 hh]) h _ List.mem_cons_self)
    cases hn.symm.trans h0
    exact ⟨meth, c, h1, h2, h3, h4, h5, h6⟩
  · intro p e s m args below meth c s₁ B hml hv _
    obtain ⟨rfl, hK, hR, hI⟩ := hv
    have hh0 : s₁.heap = s.heap := by rw [B.state]; rfl
    have ht : c.exceptionTable.toList = tableOf hh := by
      obtain ⟨m9, meth9, c9, h0, h1, h2, -, -, h7, -, -, -⟩ := Cond.codeWith_spec (show (Cond.codeWith M.1 M.2.1 M.2.2.1 M.2.2.2 hh).before _ s = true from atoms_spec (ws := [Cond.codeWith M.1 M.2.1 M.2.2.1 M.2.2.2 hh]) B.pre _ List.mem_cons_self)
      cases B.named.symm.trans h0
      cases Option.some.inj (h1.symm.trans B.method)
      cases Option.some.inj (h2.symm.trans (Stand.of_body B).code)
      rw [← h7, table_eq]
    have hl' := lv_entry (av.map aj_v) (n := M.2.2.1) (by rw [aj_sl_wd]; exact hn)
    rw [aj_args_lv] at hl'
    have K := body (p, l, e, (headSpec [Cond.codeWith M.1 M.2.1 M.2.2.1 M.2.2.2 hh] rm).room, s, m, (av.map aj_v).toArray, below, meth, c, (fun t => ∃ o, t.status = .running ∧ Ended t below o ∧ aj_xQ D dA base rm post (fun _ _ => False) (av.map aj_v).toArray s o t), D, dA, base)
      ⟨B.exec, B.bytes, hml, findClass_of_methodNamed B.named, hK, B.notSynchronized, B.returns, hl, rfl, fun h9 => (name_of_methodNamed B.named B.method).1.trans h9⟩ ⟨rfl, ht⟩ _ s.heap [] hl' hR hI va_S.rf
    have X0 := Stand.of_body B
    have K2 := K s₁ hh0 X0
    have e1 : entryFrame m (av.map aj_v).toArray M.2.2.1 = F0 m 0 (lg_sl (av.map aj_v) ++ List.replicate (M.2.2.1 - (lg_sl (av.map aj_v)).length) Slot.unset).toArray [] := lg_entry_eq ..
    rw [e1]
    obtain ⟨t, a1, o, b1, b2, b3⟩ := K2
    exact ⟨t, o, a1, b1, b2, b3⟩
section
variable {Γ : aj_G} {ym : MethodName} {cc : ByteArray} {nL : Nat} {ret : Option FieldType} {rm : Room} {k : Nat × Nat} {pc : Nat} {lv : List (Nat × aV)} {st : List aV} {w w' : aw_W} {r : Option Nat} {ci kf index : Nat} {post : Option aV → aw_W → Prop}
theorem j_catch {hh : List (Nat × Nat × Nat × Nat)} {E : String} {hpc : Nat} (cn : List (Nat × String)) (G : aj_ok Γ ym cc nL ret rm) (F : aj_finH Γ hh rm post) (hcn : ∀ q ∈ cn, q.1 ≠ 0 ∧ q.2 ∈ aw_ex ∧ Cond.classLink ym.cls q.1 q.2 ∈ aw_ws) (hE : E ∈ aw_ex) (hp : aj_pick pc cn E hh = some hpc)
    (kh : ∀ q : Nat, aj_J Γ nL k hpc lv [aRf (some q)] w) : aj_X Γ nL k pc lv st w E := by
  intro ls H locs q ce h1 h2 h3 h4 h5 h6 h7 T hT X
  have hpl : (ge Γ).platform.magicAccessors = ({} : Platform).magicAccessors := by rw [X.admits.platform]
  obtain ⟨vm', hW', hQ'⟩ := aj_go (s := gs Γ) (e := ge Γ) (f := F0 (gm Γ) pc ls (st.map aj_v)) (a := q) (cell := ce) (E := E) (cn := cn)
    (fun q9 hq9 => ⟨(hcn q9 hq9).1, Cond.classLink_spec G.own (G.word (A := ga Γ) (hcn q9 hq9).2.2) (ge Γ).platform hpl⟩) h7 (fun q9 hq9 hne => G.K.2.2.2.2.2.2 E hE q9.2 (hcn q9 hq9).2.1 (fun h => hne h.symm)) h6
    hh ((T.setTop (F0 (gm Γ) pc ls (st.map aj_v))).pushFrame (.throwing q)) hpc (by rw [Stand.throwing_vm]; exact X.warmed) (by rw [Stand.throwing_heap, hT]; exact h5) hp
  have X' := X.noted hW'
  obtain ⟨t, a1, b1⟩ := kh q ls H locs h1 h2 h3 h4 (T.setVm vm') hT X'
  refine ⟨t, aj_caught (g := F0 (gm Γ) pc ls (st.map aj_v)) X.here (vm' := vm') (pc := hpc) (fun Q Ec d acts hQ => ?_) a1, b1⟩
  refine (W.findHandler_eq (meth := gme Γ) (code := gc Γ) (by rw [Stand.throwing_vm]; exact X.method') X.code).mpr ?_
  rw [F.2]
  exact hQ' Q Ec d acts hQ
def aw_Mh (M : aj_M) (hh : List (Nat × Nat × Nat × Nat)) (n : Nat) : Prop := Cond.codeWith M.1 M.2.1 M.2.2.1 M.2.2.2 hh ∈ aw_ws ∧ Cond.initialized M.1.cls ∈ aw_ws ∧ (M.1.cls ≠ "java/lang/invoke/MethodHandle" ∧ M.1.cls ≠ "java/lang/invoke/VarHandle") ∧ (parseMethodDescriptor M.1.desc).map (fun d => d.parameters.length) = some n
theorem aw_Mh.len {M : aj_M} {hh : List (Nat × Nat × Nat × Nat)} {n : Nat} (h : aw_Mh M hh n) : ∀ sig, parseMethodDescriptor M.1.desc = some sig → n = sig.parameters.length := by
  intro sig hs
  have h1 := h.2.2.2
  rw [hs] at h1
  exact (Option.some.inj h1).symm
theorem j_callSh {M : aj_M} {hh : List (Nat × Nat × Nat × Nat)} {rmc : Room} {n : Nat} {As st0 : List aV} {pn : Option aV → aw_W → Prop} (G : aj_ok Γ ym cc nL ret rm) (d : decode cc pc = .ok (.invokestatic index, 3)) (hM : aj_Ch (gl Γ) (gD Γ) (gA Γ) (gB Γ) M hh rmc As w pn)
    (hw : aw_Mh M hh n) (hi : Cond.static M.1 ∈ aw_ws) (hL : Cond.methodLink ym.cls index M.1 ∈ aw_ws) (hn : As.length = n) (hst : st0 = As.reverse ++ st) (hW : aj_wd st ≤ 8) (hf : rmc.frames + 1 ≤ rm.frames ∧ 8 + (M.2.2.1 + 11) + rmc.locals ≤ rm.locals) (hcs : k.1 + rmc.cells ≤ rm.cells ∧ k.2 + rmc.slots ≤ rm.slots)
    (kn : ∀ v w', pn v w' → aj_J Γ nL (k.1 + rmc.cells, k.2 + rmc.slots) (pc + 3) lv (v.toList ++ st) w') : aj_J Γ nL k pc lv st0 w := by
  intro ls H locs h1 h2 h3 h4 T hT X
  obtain ⟨mk, methM, cM, hnamed, hmethM, -, -, -, -, -, -, hsigM⟩ := Cond.codeWith_spec (G.word (A := ga Γ) hw.1)
  have hstatic : methM.isStatic = true := Cond.static_spec hnamed hmethM (G.word (A := ga Γ) hi)
  obtain ⟨kP, hkP, -⟩ := className_of_methodNamed hnamed
  have hinitP : kP.init = .initialized := Cond.initialized_spec (findClass_of_methodNamed hnamed) hkP (G.word (A := ga Γ) hw.2.1)
  obtain ⟨vm₁, X₁, hstep₁⟩ := X.invokestatic G.1 G.own (G.word hL) hnamed hmethM hstatic hkP hinitP hw.2.2.1 (g := F0 (gm Γ) pc ls (st0.map aj_v)) rfl (argsL := As.map aj_v) (rest := st.map aj_v) (by rw [List.length_map, hn]; exact hw.len _ hsigM) (by rw [hst]; simp) (by rw [G.2.1]; exact d)
  have hn1 := X₁.named hnamed
  have hcodeT : (Cond.codeWith M.1 M.2.1 M.2.2.1 M.2.2.2 hh).before (As.map aj_v).toArray (T.setVm vm₁) = true := aw_at (aw_ws_ok hw.1) X₁.warmed (G.K.2.1 _ hw.1)
  obtain ⟨mk9, methY, cY, hn9, hmY, hcY, -, hlY, -, -, -, -⟩ := Cond.codeWith_spec hcodeT
  cases hn1.symm.trans hn9
  have hdg : decode (gc Γ).code pc = .ok (.invokestatic index, 3) := by rw [G.2.1]; exact d
  have hpre : (headSpec [Cond.codeWith M.1 M.2.1 M.2.2.1 M.2.2.2 hh] rmc).pre.before (As.map aj_v).toArray (T.setVm vm₁) = true := atoms_intro fun w hw9 => G.words hw.1 w hw9 _ _ X₁.warmed
  obtain ⟨o, s₂, hsteps, hend, hq⟩ := aj_invoked X₁ (g := F0 (gm Γ) pc ls (st.map aj_v)) rfl (h1.1.trans G.maxL.symm) hdg hM hn1 hmY hcY (aw_at (aw_ws_ok hw.2.1) X₁.warmed (G.K.2.1 _ hw.2.1)) hpre (by rw [G.room]; exact hf.1)
    (by
      rw [G.room, hlY]
      show 2 * 0 + ((st.map aj_v).map fun v => v.category).sum + (M.2.2.1 + 11) + rmc.locals ≤ rm.locals
      rw [aj_wd_sum]
      omega) (by rw [G.room]; exact hcs.1) (by rw [G.room]; exact hcs.2) (aj_blind _ _ _ _ ⟨rfl, G.warm h4 (show (T.setVm vm₁).heap = H from hT) X₁.warmed, by rw [show (T.setVm vm₁).heap = H from hT]; exact h2, h3⟩)
  obtain ⟨t, a1, b1⟩ := aj_behind (M := M) h1 h4 (show (T.setVm vm₁).heap = H from hT) X₁ hdg hend hq kn (fun _ _ h => h.elim)
  exact ⟨t, hstep₁ _ (fun acts => by rw [doInvoke_state]; exact hsteps.trans a1), b1⟩
end
