/-! ===== calls of methods that may throw; the throw itself ===== -/
/-- the words of a throw of X, whose constructor hands its text on to that of Y, Y's to those of names, the last to Throwable's -/
def aj_atoms (own : String) (ic : Nat) (X Y : String) (ix : Nat) (bs : ByteArray) (names : List String) : List Cond :=
  Bundle.throwableAtoms ++ Bundle.throwableSAtoms ++ Bundle.passSAtoms X Y ix bs ++ Bundle.chainSAtoms Y names ++
  [.methodLink own ic (Bundle.initS X), .instantiable X 6, .castable X X, .selects X Bundle.tFill0 Bundle.tFill0, .selects X Bundle.tFill Bundle.tFill,
   .lays X Bundle.tN "cause" "Ljava/lang/Throwable;", .lays X Bundle.tN "stackTrace" Bundle.steD, .lays X Bundle.tN "suppressedExceptions" Bundle.listD, .lays X Bundle.tN "detailMessage" "Ljava/lang/String;",
   .isRef (.static Bundle.tN "UNASSIGNED_STACK" Bundle.steD), .isRef (.static Bundle.tN "SUPPRESSED_SENTINEL" Bundle.listD),
   .fieldLink Bundle.tN 198 Bundle.tN "backtrace" "Ljava/lang/Object;", .lays Bundle.tN Bundle.tN "backtrace" "Ljava/lang/Object;", .lays X Bundle.tN "backtrace" "Ljava/lang/Object;"]
section
variable {p : Program} {l : Launch} {e : Env} {R : Room} {s : State} {m : MethodId} {args : Array Value} {below : List Frame} {meth : Method} {c : Code} {T : State} {cells slots : Nat}
set_option maxHeartbeats 1000000 in
/-- a new object's constructor with a text, and its throw (no traces kept); the library's law for any first step of the chain -/
theorem aj_ctorThrow (X : Stand p l e R s m args below meth c T [] cells slots) (hexec : p.tables.exec = Jvm.exec) (htr : e.platform.stackTraces = false) {own cls Y : String} {names : List String} {ic ix : Nat} {bs : ByteArray}
    (hown : s.vm.findClass own = some m.cls) (hcls : Bundle.fit cls = true) (hY : Bundle.fit Y = true) (hnames : ∀ n ∈ names, Bundle.fit n = true)
    (b0 : decode bs 0 = .ok (.aload_n 0, 1)) (b1 : decode bs 1 = .ok (.aload_n 1, 1)) (b2 : decode bs 2 = .ok (.invokespecial ix, 3)) (b5 : decode bs 5 = .ok (.return_, 1))
    (h : ∀ a ∈ aj_atoms own ic cls Y ix bs names, a.before args s = true) {a : Addr} {cX : ClassId} {kX : Class} (hfoundX : s.vm.findClass cls = some cX) (hkX : s.vm.classes[cX]? = some kX) (hcell : T.heap[a]? = some (freshCell cX kX)) (hnew : s.heap.size ≤ a)
    {msg : Value} (hmsg : msg.isRef = true) {g : JFrame} (hg : g.method = m) (hsize : g.locals.size = c.maxLocals) (hlocked : g.locked = none) (hentered : g.entered = []) {rest : List Value} (hstack : g.stack = msg :: .ref a :: .ref a :: rest)
    (hd6 : decode c.code g.pc = .ok (.invokespecial ic, 3)) (hd9 : decode c.code (g.pc + 3) = .ok (.athrow, 1)) (hout : ∀ x ∈ c.exceptionTable.toList, covers x (g.pc + 3) = false)
    (hRframes : names.length + 4 < R.frames) (hRlocals : 2 * g.monitorRoom + ((Value.ref a :: rest).map fun v => v.category).sum + (13 * (names.length + 2) + 42) ≤ R.locals) (hlocks : meth.locks = false) :
    ∃ U : State, Steps p.tables e below (T.setTop g) U ∧ U.status = .running ∧ Ended U below (.threw a) ∧ s.WarmedH U.vm ∧ s.sameButNew ({ U with vm := s.vm } : State) [] cells slots ∧
      ∃ ce, U.heap[a]? = some ce ∧ ce.vm = .none ∧ s.vm.findClass cls = some ce.cls := by
  have howns : e.platform.frameOwnsMonitors = true := by rw [X.admits.platform]
  have hfin : e.platform.finalization = false := by rw [X.admits.platform]
  have hpl : e.platform.magicAccessors = ({} : Platform).magicAccessors := by rw [X.admits.platform]
  have w : ∀ x, x ∈ aj_atoms own ic cls Y ix bs names → x.holds args s none s [] = true := fun x hx => h x hx
  obtain ⟨Th, Z0, L, -, Ti⟩ := ThrowableC.of_atoms (args := args) howns hfin hpl (fun x hx => h x (by simp [aj_atoms, hx]))
  obtain ⟨Z, M, LZ, LM, hnZ⟩ := Init0T.ofS_atoms (args := args) hpl L Ti (fun x hx => h x (by simp [aj_atoms, hx]))
  obtain ⟨P1, L1, hP1m, hP1s⟩ := PassC.ofS_atoms (args := args) (s := s) hpl (X := cls) (Y := Y) (Bundle.fit_spec hcls).1 (Bundle.fit_spec hY).2 b0 b1 b2 b5 (fun x hx => h x (by simp [aj_atoms, hx]))
  obtain ⟨P2, Ps, hlen, L2, hL, hP2m, hlink2, hlink⟩ := Bundle.chainS (args := args) hpl hnZ names Y hY hnames (fun x hx => h x (by simp [aj_atoms, hx]))
  have hlink1 : P1.sup = P2.m := Option.some.inj (hP1s.symm.trans hP2m)
  have hfound : s.vm.findClass cls = some P1.m.cls := findClass_of_methodNamed hP1m
  cases Option.some.inj (hfoundX.symm.trans hfound)
  obtain ⟨c1, kX', hc1, hk, hord, -, -, hn6⟩ := Cond.instantiable_spec (w (.instantiable cls 6) (by simp [aj_atoms]))
  cases Option.some.inj (hc1.symm.trans hfound)
  cases Option.some.inj (hkX.symm.trans hk)
  have hsel0 : selectMethod e.platform s.vm P1.m.cls Th.fill0 = .method Th.fill0 := by
    obtain ⟨c2, r2, m2, q1, q2, q3, q4, -⟩ := Cond.selects_spec (w (.selects cls Bundle.tFill0 Bundle.tFill0) (by simp [aj_atoms]))
    cases Option.some.inj (q1.symm.trans hfound)
    cases Option.some.inj (q2.symm.trans (State.methodFound?_of_named Ti.fill0 (by decide)))
    cases Option.some.inj (q3.symm.trans Ti.fill0)
    rw [Launch.admits_selectMethod X.admits]; exact q4
  have hselF : selectMethod e.platform s.vm P1.m.cls Th.fill = .method Th.fill := by
    obtain ⟨c2, r2, m2, q1, q2, q3, q4, -⟩ := Cond.selects_spec (w (.selects cls Bundle.tFill Bundle.tFill) (by simp [aj_atoms]))
    cases Option.some.inj (q1.symm.trans hfound)
    cases Option.some.inj (q2.symm.trans (State.methodFound?_of_named Ti.fill (by decide)))
    cases Option.some.inj (q3.symm.trans Ti.fill)
    rw [Launch.admits_selectMethod X.admits]; exact q4
  obtain ⟨cellS0, hcS0, hiss⟩ := Ti.statics
  obtain ⟨u0, hu0⟩ := Cond.staticRefV Ti.unassigned L.unassignedStatic L.statics hcS0 hiss (w (.isRef (.static Bundle.tN "UNASSIGNED_STACK" Bundle.steD)) (by simp [aj_atoms]))
  obtain ⟨sen, hsen⟩ := Cond.staticRefV Ti.sentinel L.sentinelStatic L.statics hcS0 hiss (w (.isRef (.static Bundle.tN "SUPPRESSED_SENTINEL" Bundle.listD)) (by simp [aj_atoms]))
  obtain ⟨ci198, i198, fB, hk198, hg198, ha198, hsB, -, hnB, htB, hffB⟩ := Cond.ownField (t := .object "java/lang/Object") Ti.found L.cls (by decide +kernel) (w (.fieldLink Bundle.tN 198 Bundle.tN "backtrace" "Ljava/lang/Object;") (by simp [aj_atoms])) (w (.lays Bundle.tN Bundle.tN "backtrace" "Ljava/lang/Object;") (by simp [aj_atoms])) e.platform hpl
  obtain ⟨cellS, hcS', heS, -, hkeep⟩ := X.same.2.2.2.2.2 Th.aS cellS0 hcS0
  have hcellS : T.heap[Th.aS]? = some cellS := hcS'
  have hknownS : cellS.vm ≠ .unknown := by
    rw [heS]; intro hu
    rw [show cellS0.vm = .unknown from hu] at hiss
    cases hiss
  have hneS : Th.aS ≠ a := Nat.ne_of_lt (Nat.lt_of_lt_of_le (Array.getElem?_eq_some_iff.mp hcS0).1 hnew)
  obtain ⟨iM, hffM⟩ := Ti.msg
  obtain ⟨tyC, dC, hdC, hdnC⟩ := Cond.laysAt hfound hk Ti.cause (w (.lays cls Bundle.tN "cause" "Ljava/lang/Throwable;") (by simp [aj_atoms]))
  obtain ⟨tyS, dS, hdS, hdnS⟩ := Cond.laysAt hfound hk Ti.stack (w (.lays cls Bundle.tN "stackTrace" Bundle.steD) (by simp [aj_atoms]))
  obtain ⟨tyP, dP, hdP, hdnP⟩ := Cond.laysAt hfound hk Ti.supp (w (.lays cls Bundle.tN "suppressedExceptions" Bundle.listD) (by simp [aj_atoms]))
  obtain ⟨tyM, dM, hdM, hdnM⟩ := Cond.laysAt hfound hk hffM (w (.lays cls Bundle.tN "detailMessage" "Ljava/lang/String;") (by simp [aj_atoms]))
  obtain ⟨tyB, dB, hdB, hdnB⟩ := Cond.laysAt hfound hk hffB (w (.lays cls Bundle.tN "backtrace" "Ljava/lang/Object;") (by simp [aj_atoms]))
  have bC := Cond.laysApart hdB hdC hdnB hdnC (by rw [hnB, Ti.causeName]; decide)
  have bS := Cond.laysApart hdB hdS hdnB hdnS (by rw [hnB, Ti.stackName]; decide)
  have bP := Cond.laysApart hdB hdP hdnB hdnP (by rw [hnB, Ti.suppName]; decide)
  have hskip : SkipFacts Th e.platform s (fun u => u) u0 ((preparedCellV Th.toThrowableT (freshCell P1.m.cls kX) a u0 sen).withEntry T.cur) :=
    ⟨{ ci198 := ci198, i198 := i198, fBack := fB }, ⟨hk198, hg198, ha198, hsB⟩, by
      have := fresh_default (c := P1.m.cls) tyB
      rw [htB] at this
      simpa [preparedCellV, Cell.setSlot, Cell.withEntry, Array.getElem?_setIfInBounds, bC, bS, bP, bC.symm, bS.symm, bP.symm, defaultValue] using this, fun _ _ => rfl⟩
  obtain ⟨tm, methC, cdC, kC, vm₁, hnC, -, -, -, -, -, -, -, hW₁, st1⟩ := Steps.initColdS (tb := p.tables) (e := e) (below := below) (s := s) (U := T) X.here hexec X.warmed hpl hown (t := Bundle.initS cls) rfl rfl (Bundle.fit_spec hcls).2
    (w (.methodLink own ic (Bundle.initS cls)) (by simp [aj_atoms])) (h (.instanceMethod (Bundle.initS cls)) (by simp [aj_atoms, Bundle.passSAtoms])) (bytes := bs) (maxL := 2) (h (.code (Bundle.initS cls) bs 2 none) (by simp [aj_atoms, Bundle.passSAtoms]))
    (f := g) hg (a := a) (msg := msg) (rest := .ref a :: rest) hstack hd6
  cases Option.some.inj (hnC.symm.trans hP1m)
  have X₁ := X.noted hW₁
  obtain ⟨vm₂, X₂, st2⟩ := X₁.ctorMessageOffV hexec (g := { g with stack := .ref a :: rest }) hg hsize Th L Z LZ M LM (P1 :: P2 :: Ps)
    (fun P hP => by
      rcases List.mem_cons.mp hP with rfl | hP
      · exact L1
      · rcases List.mem_cons.mp hP with rfl | hP
        · exact L2
        · exact hL P hP) ⟨hlink1, hlink2, hlink⟩ (u0 := u0) (sen := sen) (self := a) hmsg (cell := freshCell P1.m.cls kX) (cellS := cellS)
    hcell (fun _ => by simp) (by simp) rfl rfl hsel0 hselF hcellS hneS hknownS (by rw [hkeep _ (fun hm => nomatch hm)]; exact hu0) (by rw [hkeep _ (fun hm => nomatch hm)]; exact hsen)
    (Takes.of_laid hk hord tyC (by rw [Ti.causeType]; rfl)) (Takes.of_laid hk hord tyS (by rw [Ti.stackType]; exact fits_refV_array _ u0)) (Takes.of_laid hk hord tyP (by rw [Ti.suppType]; exact fits_refV_object _ sen))
    (Takes.of_laid hk hord tyM (by rw [Ti.msgType]; exact fits_refV_object _ ⟨msg, hmsg⟩)) Ti.objLocals hskip htr [] hd6
    (by simp only [List.length_cons, hlen]; omega) (by simp only [List.length_cons, hlen]; exact hRlocals)
  obtain ⟨hwalk, hrun, hended, hWU, hsame⟩ := X₂.athrowLeaves hexec (g := { g with stack := .ref a :: rest, pc := g.pc + 3 }) hg hlocked hentered hout (a := a) (rest := rest) rfl hd9 hlocks
  have hlt : a < ((T.setVm vm₁).setVm vm₂).heap.size := (Array.getElem?_eq_some_iff.mp hcell).1
  have hU := heapAt_setCell_self (s := (T.setVm vm₁).setVm vm₂) (plainBareV Th.toThrowableT (freshCell P1.m.cls kX) a u0 sen msg) hlt
  refine ⟨_, st1 _ (fun acts => ?_), hrun, hended, hWU, hsame.weaken (fun y hy hlt' => ?_) (Nat.le_refl _) (Nat.le_refl _), _, hU, rfl, hfound⟩
  · rw [doInvoke_state]
    exact st2 _ hwalk
  · exfalso
    have hb : y.base = a := by
      simp only [List.nil_append, List.mem_cons, List.not_mem_nil, or_false] at hy
      rcases hy with rfl | rfl | rfl | rfl | rfl <;> rfl
    rw [hb] at hlt'
    exact Nat.not_lt.mpr hnew hlt'
end
section
variable {Γ : aj_G} {ym : MethodName} {cc : ByteArray} {nL : Nat} {ret : Option FieldType} {rm : Room} {k : Nat × Nat} {pc : Nat} {lv : List (Nat × aV)} {st : List aV} {w w' : aw_W} {r : Option Nat} {ci kf index : Nat} {post : Option aV → aw_W → Prop} {px : String → aw_W → Prop}
/-- the step behind the invocation, for a method without handlers -/
theorem aj_come {M : aj_M} {rmc : Room} {As : List aV} {n : Nat} {pn : Option aV → aw_W → Prop} {pq : String → aw_W → Prop} {T : State} {vm1 : Vm} {H : Heap} {locs : List Loc} {ls : Array Slot} {mk : MethodId} {ig : Instr} (G : aj_ok Γ ym cc nL ret rm) (hM : aj_Cx (gl Γ) (gD Γ) (gA Γ) (gB Γ) M rmc As w pn pq) (hw : aw_Mw M n)
    (d : decode cc pc = .ok (ig, 3)) (hW : aj_wd st ≤ 8) (hf : rmc.frames + 1 ≤ rm.frames ∧ 8 + (M.2.2.1 + 11) + rmc.locals ≤ rm.locals) (hcs : k.1 + rmc.cells ≤ rm.cells ∧ k.2 + rmc.slots ≤ rm.slots)
    (h1 : lv_has ls nL (aj_lv lv)) (h2 : aw_R (gD Γ) (gA Γ) w H) (h3 : aw_In (gB Γ) w) (h4 : va_S (fun q => gB Γ ≤ q) (gs Γ).heap H locs) (hT : T.heap = H) (hnamed : (gs Γ).methodNamed? M.1 = some mk)
    (X₁ : Stand (gp Γ) (gl Γ) (ge Γ) (gR Γ) (gs Γ) (gm Γ) (ga Γ) (gb Γ) (gme Γ) (gc Γ) (T.setVm vm1) locs k.1 k.2)
    (kn : ∀ v w', pn v w' → aj_J Γ nL (k.1 + rmc.cells, k.2 + rmc.slots) (pc + 3) lv (v.toList ++ st) w') (kx : ∀ E w', pq E w' → aj_X Γ nL (k.1 + rmc.cells, k.2 + rmc.slots) pc lv st w' E) :
    ∃ t, Steps (gp Γ).tables (ge Γ) (gb Γ) (doInvoke (ge Γ) ((T.setVm vm1).setTop (F0 (gm Γ) pc ls (st.map aj_v))) [] mk (As.map aj_v).toArray).1 t ∧ gQ Γ t := by
  have hn1 := X₁.named hnamed
  have hcodeT : (Cond.code M.1 M.2.1 M.2.2.1 M.2.2.2).before (As.map aj_v).toArray (T.setVm vm1) = true := aw_at (aw_ws_ok hw.1) X₁.warmed (G.K.2.1 _ hw.1)
  obtain ⟨methY, cY, hmY, hcY, -, hlY, -, -, -, -⟩ := Cond.code_spec hn1 hcodeT
  have hdg : decode (gc Γ).code pc = .ok (ig, 3) := by rw [G.2.1]; exact d
  have hpre : (headSpec [Cond.code M.1 M.2.1 M.2.2.1 M.2.2.2] rmc).pre.before (As.map aj_v).toArray (T.setVm vm1) = true := atoms_intro fun w hw9 => G.words hw.1 w hw9 _ _ X₁.warmed
  obtain ⟨o, s₂, hsteps, hend, hq⟩ := aj_invoked X₁ (g := F0 (gm Γ) pc ls (st.map aj_v)) rfl (h1.1.trans G.maxL.symm) hdg hM hn1 hmY hcY (aw_at (aw_ws_ok hw.2.1) X₁.warmed (G.K.2.1 _ hw.2.1)) hpre (by rw [G.room]; exact hf.1)
    (by
      rw [G.room, hlY]
      show 2 * 0 + ((st.map aj_v).map fun v => v.category).sum + (M.2.2.1 + 11) + rmc.locals ≤ rm.locals
      rw [aj_wd_sum]
      omega) (by rw [G.room]; exact hcs.1) (by rw [G.room]; exact hcs.2) (aj_blind _ _ _ _ ⟨rfl, G.warm h4 (show (T.setVm vm1).heap = H from hT) X₁.warmed, by rw [show (T.setVm vm1).heap = H from hT]; exact h2, h3⟩)
  obtain ⟨t, a1, b1⟩ := aj_behind (M := M) h1 h4 (show (T.setVm vm1).heap = H from hT) X₁ hdg hend hq kn kx
  exact ⟨t, hsteps.trans a1, b1⟩
theorem j_callVx {M : aj_M} {rmc : Room} {n : Nat} {As st0 : List aV} {Tu : u_T} {N : Nat} {q0 : Nat × List Value} {pn : Option aV → aw_W → Prop} {pq : String → aw_W → Prop} (G : aj_ok Γ ym cc nL ret rm) (d : decode cc pc = .ok (.invokevirtual index, 3)) (hM : aj_Cx (gl Γ) (gD Γ) (gA Γ) (gB Γ) M rmc (aRf r :: As) w pn pq)
    (hw : aw_Mw M n) (hi : aw_Mi M) (hL : Cond.methodLink ym.cls index M.1 ∈ aw_ws) (hc : aCl[ci]? = some (M.1.cls, Tu, N)) (ho : aw_obj w r ci = some q0) (hn : As.length = n) (hst : st0 = As.reverse ++ aRf r :: st) (hW : aj_wd st ≤ 8) (hf : rmc.frames + 1 ≤ rm.frames ∧ 8 + (M.2.2.1 + 11) + rmc.locals ≤ rm.locals) (hcs : k.1 + rmc.cells ≤ rm.cells ∧ k.2 + rmc.slots ≤ rm.slots)
    (kn : ∀ v w', pn v w' → aj_J Γ nL (k.1 + rmc.cells, k.2 + rmc.slots) (pc + 3) lv (v.toList ++ st) w') (kx : ∀ E w', pq E w' → aj_X Γ nL (k.1 + rmc.cells, k.2 + rmc.slots) pc lv st w' E) : aj_J Γ nL k pc lv st0 w := by
  intro ls H locs h1 h2 h3 h4 T hT X
  obtain ⟨rfl, ha⟩ := aw_obj_some ho
  obtain ⟨cellB, hcB, hoB, hclB⟩ := va_recv (q0 := 0) (fs := q0.2) G.K.1 (h2.cell ha) hc rfl
  obtain ⟨mk, methM, hnamed, hmethM, hstM, habM⟩ := Cond.instanceMethod_spec (G.word (A := ga Γ) hi.1)
  obtain ⟨methM', cM, hmethM', -, -, -, -, -, -, hsigM⟩ := Cond.code_spec hnamed (G.word (A := ga Γ) hw.1)
  cases hmethM.symm.trans hmethM'
  obtain ⟨c2, r2, m2, q1, q2, q3, q4, kP, hkP, hkPi⟩ := Cond.selects_spec (G.word (A := ga Γ) hi.2)
  cases hclB.symm.trans q1
  cases (State.methodFound?_of_named hnamed hw.2.2.1).symm.trans q2
  cases hnamed.symm.trans q3
  have hselP : selectMethod (ge Γ).platform (gs Γ).vm cellB.cls mk = .method mk := by rw [Launch.admits_selectMethod X.admits]; exact q4
  obtain ⟨vm₁, X₁, hstep₁⟩ := X.invokevirtual G.1 G.own (G.word hL) hnamed hmethM hstM hkP hkPi hw.2.2.1 (a := q0.1) (cell := cellB) (by rw [hT]; exact hcB)
    (fun z h => by rw [h] at hoB; cases hoB) hselP hmethM habM hkP hkPi (g := F0 (gm Γ) pc ls (st0.map aj_v)) rfl (argsL := As.map aj_v) (rest := st.map aj_v) (by rw [List.length_map, hn]; exact hw.len _ hsigM) (by rw [hst]; simp [aj_v, va_rf]) (by rw [G.2.1]; exact d)
  obtain ⟨t, a1, b1⟩ := aj_come (As := aRf (some q0.1) :: As) G hM hw d hW hf hcs h1 h2 h3 h4 hT hnamed X₁ kn kx
  exact ⟨t, hstep₁ _ (fun acts => by rw [doInvoke_state]; exact a1), b1⟩
theorem j_callSx {M : aj_M} {rmc : Room} {n : Nat} {As st0 : List aV} {pn : Option aV → aw_W → Prop} {pq : String → aw_W → Prop} (G : aj_ok Γ ym cc nL ret rm) (d : decode cc pc = .ok (.invokestatic index, 3)) (hM : aj_Cx (gl Γ) (gD Γ) (gA Γ) (gB Γ) M rmc As w pn pq)
    (hw : aw_Mw M n) (hi : Cond.static M.1 ∈ aw_ws) (hL : Cond.methodLink ym.cls index M.1 ∈ aw_ws) (hn : As.length = n) (hst : st0 = As.reverse ++ st) (hW : aj_wd st ≤ 8) (hf : rmc.frames + 1 ≤ rm.frames ∧ 8 + (M.2.2.1 + 11) + rmc.locals ≤ rm.locals) (hcs : k.1 + rmc.cells ≤ rm.cells ∧ k.2 + rmc.slots ≤ rm.slots)
    (kn : ∀ v w', pn v w' → aj_J Γ nL (k.1 + rmc.cells, k.2 + rmc.slots) (pc + 3) lv (v.toList ++ st) w') (kx : ∀ E w', pq E w' → aj_X Γ nL (k.1 + rmc.cells, k.2 + rmc.slots) pc lv st w' E) : aj_J Γ nL k pc lv st0 w := by
  intro ls H locs h1 h2 h3 h4 T hT X
  obtain ⟨mk, hnamed⟩ := Cond.code_named (G.word (A := ga Γ) hw.1)
  obtain ⟨methM, cM, hmethM, -, -, -, -, -, -, hsigM⟩ := Cond.code_spec hnamed (G.word (A := ga Γ) hw.1)
  have hstatic : methM.isStatic = true := Cond.static_spec hnamed hmethM (G.word (A := ga Γ) hi)
  obtain ⟨kP, hkP, -⟩ := className_of_methodNamed hnamed
  have hinitP : kP.init = .initialized := Cond.initialized_spec (findClass_of_methodNamed hnamed) hkP (G.word (A := ga Γ) hw.2.1)
  obtain ⟨vm₁, X₁, hstep₁⟩ := X.invokestatic G.1 G.own (G.word hL) hnamed hmethM hstatic hkP hinitP hw.2.2.1 (g := F0 (gm Γ) pc ls (st0.map aj_v)) rfl (argsL := As.map aj_v) (rest := st.map aj_v) (by rw [List.length_map, hn]; exact hw.len _ hsigM) (by rw [hst]; simp) (by rw [G.2.1]; exact d)
  obtain ⟨t, a1, b1⟩ := aj_come (As := As) G hM hw d hW hf hcs h1 h2 h3 h4 hT hnamed X₁ kn kx
  exact ⟨t, hstep₁ _ (fun acts => by rw [doInvoke_state]; exact a1), b1⟩
/-- 'throw new E("text")' -/
theorem j_throw {cls text Y : String} {names : List String} {ik is ic ix : Nat} {bs : ByteArray} (G : aj_ok Γ ym cc nL ret rm) (F : aj_finX Γ rm post px) (hcls : Bundle.fit cls = true) (hY : Bundle.fit Y = true) (hnames : ∀ n ∈ names, Bundle.fit n = true)
    (b0 : decode bs 0 = .ok (.aload_n 0, 1)) (b1 : decode bs 1 = .ok (.aload_n 1, 1)) (b2 : decode bs 2 = .ok (.invokespecial ix, 3)) (b5 : decode bs 5 = .ok (.return_, 1)) (hk : Cond.classLink ym.cls ik cls ∈ aw_ws) (hini : Cond.initialized cls ∈ aw_ws) (hss : (ym.cls, is, text) ∈ aw_ss) (hat : ∀ a ∈ aj_atoms ym.cls ic cls Y ix bs names, a ∈ aw_hw ∨ a ∈ aw_ws)
    (d0 : decode cc pc = .ok (.new ik, 3)) (d3 : decode cc (pc + 3) = .ok (.dup, 1)) (d4 : decode cc (pc + 4) = .ok (.ldc is, 2)) (d6 : decode cc (pc + 6) = .ok (.invokespecial ic, 3)) (d9 : decode cc (pc + 9) = .ok (.athrow, 1))
    (hRf : names.length + 4 < rm.frames ∧ aj_wd st + (13 * (names.length + 2) + 43) ≤ rm.locals) (hcs : k.1 + 1 ≤ rm.cells ∧ k.2 + 6 ≤ rm.slots) (hp : px cls (none, w.2)) : aj_J Γ nL k pc lv st w := by
  intro ls H locs h1 h2 h3 h4 T hT X
  have htr : (ge Γ).platform.stackTraces = false := (show (ge Γ).platform.stackTraces = (gl Γ).stackTraces by rw [X.admits.platform]).trans G.off
  have hcs' : k.1 + 1 ≤ (gR Γ).cells ∧ k.2 + 6 ≤ (gR Γ).slots := by rw [G.room]; exact hcs
  have Y9 := aj_anew X (R' := { frames := (gR Γ).frames, locals := (gR Γ).locals, cells := 1, slots := 6 }) (Nat.le_refl _) (Nat.le_refl _) hcs'.1 hcs'.2
  obtain ⟨s', hs'⟩ : ∃ z, z = (T.setVm (gs Γ).vm).setFrames (.invoking (gm Γ) (ga Γ) :: gb Γ) := ⟨_, rfl⟩
  rw [← hs'] at Y9
  have hvm : s'.vm = (gs Γ).vm := by rw [hs']; rfl
  have hhp : s'.heap = H := by rw [hs']; exact hT
  have hK' : aw_K (gD Γ) (gA Γ) (gB Γ) s' := G.warm h4 hhp (by rw [hvm]; exact State.WarmedH.refl (gs Γ))
  have hown' : s'.vm.findClass ym.cls = some (gm Γ).cls := by rw [hvm]; exact G.own
  have hw9 : ∀ a ∈ aj_atoms ym.cls ic cls Y ix bs names, a.before (ga Γ) s' = true := fun a ha => hK'.words (hat a ha)
  have hins : (Cond.instantiable cls 6).before (ga Γ) s' = true := hw9 _ (by simp [aj_atoms])
  obtain ⟨sa, hstr⟩ := hK'.2.2.1 _ hss
  have e0 : decode (gc Γ).code pc = .ok (.new ik, 3) := by rw [G.2.1]; exact d0
  have e3 : decode (gc Γ).code (pc + 3) = .ok (.dup, 1) := by rw [G.2.1]; exact d3
  have e4 : decode (gc Γ).code (pc + 4) = .ok (.ldc is, 2) := by rw [G.2.1]; exact d4
  have e6 : decode (gc Γ).code (pc + 6) = .ok (.invokespecial ic, 3) := by rw [G.2.1]; exact d6
  have e9 : decode (gc Γ).code (pc + 9) = .ok (.athrow, 1) := by rw [G.2.1]; exact d9
  have hsz : ls.size = (gc Γ).maxLocals := h1.1.trans G.maxL.symm
  obtain ⟨vm₁, cX, kX, hfX, hkX, -, -, X₁, st1⟩ := Y9.newCold G.1 (own := ym.cls) (C := cls) (index := ik) (n := 6) hown' (hK'.words (Or.inr hk)) hins (hK'.words (Or.inr hini)) (g := F0 (gm Γ) pc ls (st.map aj_v)) rfl e0 (Nat.le_refl _) (Nat.le_refl _)
  generalize hT1 : (T.setVm vm₁).pushCell { cls := cX, slots := kX.instanceTypes.map defaultValue, vm := .none } = T1 at X₁ st1
  have hcat : (Value.ref T.heap.size).category = 1 := rfl
  have hcellA : T1.heap[T.heap.size]? = some (freshCell cX kX) := by rw [← hT1]; exact State.heap_pushCell_size _ _
  have hl43 : 2 * 0 + ((Value.ref T.heap.size :: st.map aj_v).map fun v => v.category).sum + (13 * (names.length + 2) + 42) ≤ (gR Γ).locals := by
    simp only [List.map_cons, List.sum_cons, hcat, aj_wd_sum]
    rw [G.room]
    omega
  obtain ⟨U, hsteps, hrun, hend, hW, hsame, ce, hce, hOv, hOc⟩ := aj_ctorThrow X₁ G.1 htr (own := ym.cls) (cls := cls) (names := names) (ic := ic) hown' hcls hY hnames b0 b1 b2 b5 hw9 hfX hkX hcellA (by rw [hhp, hT]; exact Nat.le_refl _) (msg := .ref sa) rfl
    (g := { method := gm Γ, pc := pc + 6, locals := ls, stack := .ref sa :: .ref T.heap.size :: .ref T.heap.size :: st.map aj_v, locked := none }) rfl hsz rfl rfl (rest := st.map aj_v) rfl e6 e9 (fun x hx => (F.2 x hx).elim) (by rw [G.room]; exact hRf.1) hl43 G.locks
  obtain ⟨-, f1, -, -, -, f6⟩ := id hsame
  rw [hhp] at f1
  have f2 : ∀ q : Nat, q < H.size → U.heap[q]? = H[q]? := by
    intro q hq
    have hq' : q < s'.heap.size := by rw [hhp]; exact hq
    obtain ⟨c9, g1, g2, g3, g4⟩ := f6 q _ (Array.getElem?_eq_getElem hq')
    have hsl : c9.slots = (s'.heap[q]).slots := Array.ext_getElem? fun i => g4 i fun hm => nomatch hm
    have h9 : c9 = s'.heap[q] := by
      rw [hsl] at g2
      exact g2
    have g5 : U.heap[q]? = some c9 := g1
    rw [g5, h9, ← Array.getElem?_eq_getElem hq', hhp]
  have hWs : (gs Γ).WarmedH U.vm := State.WarmedH.trans (t := s') (by rw [hvm]; exact State.WarmedH.refl (gs Γ)) hW
  have hcl : (gs Γ).vm.findClass cls = some ce.cls := by
    have h9 := hOc
    rw [hvm] at h9
    exact h9
  have hall : (gs Γ).sameButNew ({ U with vm := (gs Γ).vm } : State) locs rm.cells rm.slots := by
    subst hs'
    obtain ⟨g1, g2⟩ := hsame
    rw [State.setFrames_setFrames] at g1
    have g3 : (T.setVm (gs Γ).vm).sameButNew ({ U with vm := (gs Γ).vm } : State) [] (0 + 1) (0 + 6) := ⟨g1, g2⟩
    have g4 := X.same.trans g3
    rw [List.append_nil] at g4
    exact g4.mono hcs.1 hcs.2
  have hF : va_F (fun q => gB Γ ≤ q) (gs Γ) U := ⟨Nat.le_trans h4.1 f1, fun q q1 q2 => (f2 q (Nat.lt_of_lt_of_le q1 h4.1)).trans (h4.2.1 q q1 q2)⟩
  refine ⟨U, st1 _ ?_, ?_⟩
  · show Steps (gp Γ).tables (ge Γ) (gb Γ) (T1.setTop { method := gm Γ, pc := pc + 3, locals := ls, stack := .ref T.heap.size :: st.map aj_v, locked := none }) _
    jvm_step X₁.here [X₁.here.top, G.1, e3, Value.category]
    exact X₁.ldcString G.1 (own := ym.cls) (text := text) (index := is) (a := sa) hown' hstr.1 hstr.2
      (g := { method := gm Γ, pc := pc + 4, locals := ls, stack := .ref T.heap.size :: .ref T.heap.size :: st.map aj_v, locked := none }) rfl e4 _ hsteps
  · rw [F.1]
    exact ⟨.threw T.heap.size, hrun, hend, Or.inr ⟨T.heap.size, cls, ce, (none, w.2), locs, rfl, hp, ⟨h2.kept f2, h3, hF⟩, hce, hOv, hcl, hWs, hall, h4.2.2⟩⟩
end
