/-! ===== calls of methods that may throw; the throw itself ===== -/
section
variable {Γ : aj_G} {ym : MethodName} {cc : ByteArray} {nL : Nat} {ret : Option FieldType} {rm : Room} {k : Nat × Nat} {pc : Nat} {lv : List (Nat × aV)} {st : List aV} {w w' : aw_W} {r : Option Nat} {ci kf index : Nat} {post : Option aV → aw_W → Prop} {px : String → aw_W → Prop}
/-- the step behind the invocation, for a method without handlers -/
theorem aj_come {M : aj_M} {rmc : Room} {As : List aV} {n : Nat} {pn : Option aV → aw_W → Prop} {pq : String → aw_W → Prop} {T : State} {vm1 : Vm} {H : Heap} {locs : List Loc} {ls : Array Slot} {mk : MethodId} {ig : Instr} (G : aj_ok Γ ym cc nL ret rm) (hM : aj_Cx (gl Γ) (gD Γ) (gA Γ) (gB Γ) M rmc As w pn pq) (hw : aw_Mw M n)
    (d : decode cc pc = .ok (ig, 3)) (hW : aj_wd st ≤ 8) (hf : rmc.frames + 1 ≤ rm.frames ∧ 8 + (M.2.2.1 + 11) + rmc.locals ≤ rm.locals) (hcs : k.1 + rmc.cells ≤ rm.cells ∧ k.2 + rmc.slots ≤ rm.slots)
    (h1 : lv_has ls nL (aj_lv lv)) (h2 : aw_R (gD Γ) (gA Γ) w H) (h3 : aw_In (gB Γ) w) (h4 : va_S (fun q => gB Γ ≤ q) (gs Γ).heap H locs) (hT : T.heap = H) (hnamed : (gs Γ).methodNamed? M.1 = some mk)
    (X₁ : Stand (gp Γ) (gl Γ) (ge Γ) (gR Γ) (gs Γ) (gm Γ) (ga Γ) (gb Γ) (gme Γ) (gc Γ) (T.setVm vm1) locs k.1 k.2)
    (kn : ∀ v w', pn v w' → aj_J Γ nL (k.1 + rmc.cells, k.2 + rmc.slots) (pc + 3) lv (v.toList ++ st) w') (kx : ∀ E w', pq E w' → aj_X Γ nL (k.1 + rmc.cells, k.2 + rmc.slots) pc lv st w' E) :
    ∃ t, Steps (gp Γ).tables (ge Γ) (gb Γ) (doInvoke (ge Γ) ((T.setVm vm1).setTop (F0 (gm Γ) pc ls (st.map aj_v))) [] mk (As.map aj_v).toArray).1 t ∧ gQ Γ t := by
  have hn1 := X₁.named hnamed
  have hcodeT : (Cond.code M.1 M.2.1 M.2.2.1 M.2.2.2).before (As.map aj_v).toArray (T.setVm vm1) = true := aw_at (aw_ws_ok hw.1) X₁.warmed (G.K.2.1 _ hw.1)
  obtain ⟨methY, cY, hmY, hcY, -, hlY, -, -, -, -⟩ := Cond.code_spec hn1 hcodeT
  have hdg : decode (gc Γ).code pc = .ok (ig, 3) := by rw [G.2.1]; exact d
  have hpre : (headSpec [Cond.code M.1 M.2.1 M.2.2.1 M.2.2.2] rmc).pre.before (As.map aj_v).toArray (T.setVm vm1) = true := atoms_intro fun w hw9 => G.words hw.1 w hw9 _ _ X₁.warmed
  obtain ⟨o, s₂, hsteps, hend, hq⟩ := aj_invoked X₁ (g := F0 (gm Γ) pc ls (st.map aj_v)) rfl (h1.1.trans G.maxL.symm) hdg hM hn1 hmY hcY (aw_at (aw_ws_ok hw.2.1) X₁.warmed (G.K.2.1 _ hw.2.1)) hpre (by rw [G.room]; exact hf.1)
    (by
      rw [G.room, hlY]
      show 2 * 0 + ((st.map aj_v).map fun v => v.category).sum + (M.2.2.1 + 11) + rmc.locals ≤ rm.locals
      rw [aj_wd_sum]
      omega) (by rw [G.room]; exact hcs.1) (by rw [G.room]; exact hcs.2) (aj_blind _ _ _ _ ⟨rfl, G.warm h4 (show (T.setVm vm1).heap = H from hT) X₁.warmed, by rw [show (T.setVm vm1).heap = H from hT]; exact h2, h3⟩)
  obtain ⟨t, a1, b1⟩ := aj_behind (M := M) h1 h4 (show (T.setVm vm1).heap = H from hT) X₁ hdg hend hq kn kx
  exact ⟨t, hsteps.trans a1, b1⟩
theorem j_callVx {M : aj_M} {rmc : Room} {n : Nat} {As st0 : List aV} {Tu : u_T} {N : Nat} {q0 : Nat × List Value} {pn : Option aV → aw_W → Prop} {pq : String → aw_W → Prop} (G : aj_ok Γ ym cc nL ret rm) (d : decode cc pc = .ok (.invokevirtual index, 3)) (hM : aj_Cx (gl Γ) (gD Γ) (gA Γ) (gB Γ) M rmc (aRf r :: As) w pn pq)
    (hw : aw_Mw M n) (hi : aw_Mi M) (hL : Cond.methodLink ym.cls index M.1 ∈ aw_ws) (hc : aCl[ci]? = some (M.1.cls, Tu, N)) (ho : aw_obj w r ci = some q0) (hn : As.length = n) (hst : st0 = As.reverse ++ aRf r :: st) (hW : aj_wd st ≤ 8) (hf : rmc.frames + 1 ≤ rm.frames ∧ 8 + (M.2.2.1 + 11) + rmc.locals ≤ rm.locals) (hcs : k.1 + rmc.cells ≤ rm.cells ∧ k.2 + rmc.slots ≤ rm.slots)
    (kn : ∀ v w', pn v w' → aj_J Γ nL (k.1 + rmc.cells, k.2 + rmc.slots) (pc + 3) lv (v.toList ++ st) w') (kx : ∀ E w', pq E w' → aj_X Γ nL (k.1 + rmc.cells, k.2 + rmc.slots) pc lv st w' E) : aj_J Γ nL k pc lv st0 w := by
  intro ls H locs h1 h2 h3 h4 T hT X
  obtain ⟨rfl, ha⟩ := aw_obj_some ho
  obtain ⟨cellB, hcB, hoB, hclB⟩ := va_recv (q0 := 0) (fs := q0.2) G.K.1 (h2.cell ha) hc rfl
  obtain ⟨mk, methM, hnamed, hmethM, hstM, habM⟩ := Cond.instanceMethod_spec (G.word (A := ga Γ) hi.1)
  obtain ⟨methM', cM, hmethM', -, -, -, -, -, -, hsigM⟩ := Cond.code_spec hnamed (G.word (A := ga Γ) hw.1)
  cases hmethM.symm.trans hmethM'
  obtain ⟨c2, r2, m2, q1, q2, q3, q4, kP, hkP, hkPi⟩ := Cond.selects_spec (G.word (A := ga Γ) hi.2)
  cases hclB.symm.trans q1
  cases (State.methodFound?_of_named hnamed hw.2.2.1).symm.trans q2
  cases hnamed.symm.trans q3
  have hselP : selectMethod (ge Γ).platform (gs Γ).vm cellB.cls mk = .method mk := by rw [Launch.admits_selectMethod X.admits]; exact q4
  obtain ⟨vm₁, X₁, hstep₁⟩ := X.invokevirtual G.1 G.own (G.word hL) hnamed hmethM hstM hkP hkPi hw.2.2.1 (a := q0.1) (cell := cellB) (by rw [hT]; exact hcB)
    (fun z h => by rw [h] at hoB; cases hoB) hselP hmethM habM hkP hkPi (g := F0 (gm Γ) pc ls (st0.map aj_v)) rfl (argsL := As.map aj_v) (rest := st.map aj_v) (by rw [List.length_map, hn]; exact hw.len _ hsigM) (by rw [hst]; simp [aj_v, va_rf]) (by rw [G.2.1]; exact d)
  obtain ⟨t, a1, b1⟩ := aj_come (As := aRf (some q0.1) :: As) G hM hw d hW hf hcs h1 h2 h3 h4 hT hnamed X₁ kn kx
  exact ⟨t, hstep₁ _ (fun acts => by rw [doInvoke_state]; exact a1), b1⟩
theorem j_callSx {M : aj_M} {rmc : Room} {n : Nat} {As st0 : List aV} {pn : Option aV → aw_W → Prop} {pq : String → aw_W → Prop} (G : aj_ok Γ ym cc nL ret rm) (d : decode cc pc = .ok (.invokestatic index, 3)) (hM : aj_Cx (gl Γ) (gD Γ) (gA Γ) (gB Γ) M rmc As w pn pq)
    (hw : aw_Mw M n) (hi : Cond.static M.1 ∈ aw_ws) (hL : Cond.methodLink ym.cls index M.1 ∈ aw_ws) (hn : As.length = n) (hst : st0 = As.reverse ++ st) (hW : aj_wd st ≤ 8) (hf : rmc.frames + 1 ≤ rm.frames ∧ 8 + (M.2.2.1 + 11) + rmc.locals ≤ rm.locals) (hcs : k.1 + rmc.cells ≤ rm.cells ∧ k.2 + rmc.slots ≤ rm.slots)
    (kn : ∀ v w', pn v w' → aj_J Γ nL (k.1 + rmc.cells, k.2 + rmc.slots) (pc + 3) lv (v.toList ++ st) w') (kx : ∀ E w', pq E w' → aj_X Γ nL (k.1 + rmc.cells, k.2 + rmc.slots) pc lv st w' E) : aj_J Γ nL k pc lv st0 w := by
  intro ls H locs h1 h2 h3 h4 T hT X
  obtain ⟨mk, hnamed⟩ := Cond.code_named (G.word (A := ga Γ) hw.1)
  obtain ⟨methM, cM, hmethM, -, -, -, -, -, -, hsigM⟩ := Cond.code_spec hnamed (G.word (A := ga Γ) hw.1)
  have hstatic : methM.isStatic = true := Cond.static_spec hnamed hmethM (G.word (A := ga Γ) hi)
  obtain ⟨kP, hkP, -⟩ := className_of_methodNamed hnamed
  have hinitP : kP.init = .initialized := Cond.initialized_spec (findClass_of_methodNamed hnamed) hkP (G.word (A := ga Γ) hw.2.1)
  obtain ⟨vm₁, X₁, hstep₁⟩ := X.invokestatic G.1 G.own (G.word hL) hnamed hmethM hstatic hkP hinitP hw.2.2.1 (g := F0 (gm Γ) pc ls (st0.map aj_v)) rfl (argsL := As.map aj_v) (rest := st.map aj_v) (by rw [List.length_map, hn]; exact hw.len _ hsigM) (by rw [hst]; simp) (by rw [G.2.1]; exact d)
  obtain ⟨t, a1, b1⟩ := aj_come (As := As) G hM hw d hW hf hcs h1 h2 h3 h4 hT hnamed X₁ kn kx
  exact ⟨t, hstep₁ _ (fun acts => by rw [doInvoke_state]; exact a1), b1⟩
/-- 'throw new E("text")' -/
theorem j_throw {cls text : String} {names : List String} {ik is ic : Nat} (G : aj_ok Γ ym cc nL ret rm) (F : aj_finX Γ rm post px) (hcls : Bundle.fit cls = true) (hnames : ∀ n ∈ names, Bundle.fit n = true) (hk : Cond.classLink ym.cls ik cls ∈ aw_ws) (hini : Cond.initialized cls ∈ aw_ws) (hss : (ym.cls, is, text) ∈ aw_ss) (hat : ∀ a ∈ Bundle.ownAtoms ym.cls ic cls names, a ∈ aw_hw ∨ a ∈ aw_ws)
    (d0 : decode cc pc = .ok (.new ik, 3)) (d3 : decode cc (pc + 3) = .ok (.dup, 1)) (d4 : decode cc (pc + 4) = .ok (.ldc is, 2)) (d6 : decode cc (pc + 6) = .ok (.invokespecial ic, 3)) (d9 : decode cc (pc + 9) = .ok (.athrow, 1))
    (hRf : names.length + 3 < rm.frames ∧ aj_wd st + (13 * (names.length + 1) + 43) ≤ rm.locals) (hcs : k.1 + 1 ≤ rm.cells ∧ k.2 + 6 ≤ rm.slots) (hp : px cls (none, w.2)) : aj_J Γ nL k pc lv st w := by
  intro ls H locs h1 h2 h3 h4 T hT X
  have htr : (ge Γ).platform.stackTraces = false := (show (ge Γ).platform.stackTraces = (gl Γ).stackTraces by rw [X.admits.platform]).trans G.off
  have hcs' : k.1 + 1 ≤ (gR Γ).cells ∧ k.2 + 6 ≤ (gR Γ).slots := by rw [G.room]; exact hcs
  have Y := aj_anew X (R' := { frames := (gR Γ).frames, locals := (gR Γ).locals, cells := 1, slots := 6 }) (Nat.le_refl _) (Nat.le_refl _) hcs'.1 hcs'.2
  obtain ⟨s', hs'⟩ : ∃ z, z = (T.setVm (gs Γ).vm).setFrames (.invoking (gm Γ) (ga Γ) :: gb Γ) := ⟨_, rfl⟩
  rw [← hs'] at Y
  have hvm : s'.vm = (gs Γ).vm := by rw [hs']; rfl
  have hhp : s'.heap = H := by rw [hs']; exact hT
  have hK' : aw_K (gD Γ) (gA Γ) (gB Γ) s' := G.warm h4 hhp (by rw [hvm]; exact State.WarmedH.refl (gs Γ))
  have hown' : s'.vm.findClass ym.cls = some (gm Γ).cls := by rw [hvm]; exact G.own
  have hw9 : ∀ a ∈ Bundle.ownAtoms ym.cls ic cls names, a.before (ga Γ) s' = true := fun a ha => hK'.words (hat a ha)
  have hins : (Cond.instantiable cls 6).before (ga Γ) s' = true := hw9 _ (by simp [Bundle.ownAtoms])
  obtain ⟨sa, hstr⟩ := hK'.2.2.1 _ hss
  have e0 : decode (gc Γ).code pc = .ok (.new ik, 3) := by rw [G.2.1]; exact d0
  have e3 : decode (gc Γ).code (pc + 3) = .ok (.dup, 1) := by rw [G.2.1]; exact d3
  have e4 : decode (gc Γ).code (pc + 4) = .ok (.ldc is, 2) := by rw [G.2.1]; exact d4
  have e6 : decode (gc Γ).code (pc + 6) = .ok (.invokespecial ic, 3) := by rw [G.2.1]; exact d6
  have e9 : decode (gc Γ).code (pc + 9) = .ok (.athrow, 1) := by rw [G.2.1]; exact d9
  have hsz : ls.size = (gc Γ).maxLocals := h1.1.trans G.maxL.symm
  obtain ⟨vm₁, cX, kX, hfX, hkX, -, -, X₁, st1⟩ := Y.newCold G.1 (own := ym.cls) (C := cls) (index := ik) (n := 6) hown' (hK'.words (Or.inr hk)) hins (hK'.words (Or.inr hini)) (g := F0 (gm Γ) pc ls (st.map aj_v)) rfl e0 (Nat.le_refl _) (Nat.le_refl _)
  generalize hT1 : (T.setVm vm₁).pushCell { cls := cX, slots := kX.instanceTypes.map defaultValue, vm := .none } = T1 at X₁ st1
  have hcat : (Value.ref T.heap.size).category = 1 := rfl
  have hcellA : T1.heap[T.heap.size]? = some (freshCell cX kX) := by rw [← hT1]; exact State.heap_pushCell_size _ _
  have hl43 : 2 * 0 + ((Value.ref T.heap.size :: st.map aj_v).map fun v => v.category).sum + (13 * (names.length + 1) + 42) ≤ (gR Γ).locals := by
    simp only [List.map_cons, List.sum_cons, hcat, aj_wd_sum]
    rw [G.room]
    omega
  obtain ⟨U, hsteps, hrun, hend, hW, hsame, ce, hce, hO⟩ := X₁.ctorThrowS G.1 htr (own := ym.cls) (cls := cls) (names := names) (ic := ic) hown' hcls hnames hw9 (fun x hx => nomatch hx) hfX hkX hcellA (by rw [hhp, hT]; exact Nat.le_refl _) (msg := .ref sa) rfl
    (g := { method := gm Γ, pc := pc + 6, locals := ls, stack := .ref sa :: .ref T.heap.size :: .ref T.heap.size :: st.map aj_v, locked := none }) rfl hsz rfl rfl (rest := st.map aj_v) rfl e6 e9 (fun x hx => (F.2 x hx).elim) (by rw [G.room]; exact hRf.1) hl43 G.locks
  obtain ⟨-, f1, -, -, -, f6⟩ := id hsame
  rw [hhp] at f1
  have f2 : ∀ q : Nat, q < H.size → U.heap[q]? = H[q]? := by
    intro q hq
    have hq' : q < s'.heap.size := by rw [hhp]; exact hq
    obtain ⟨c9, g1, g2, g3, g4⟩ := f6 q _ (Array.getElem?_eq_getElem hq')
    have hsl : c9.slots = (s'.heap[q]).slots := Array.ext_getElem? fun i => g4 i fun hm => nomatch hm
    have h9 : c9 = s'.heap[q] := by
      rw [hsl] at g2
      exact g2
    have g5 : U.heap[q]? = some c9 := g1
    rw [g5, h9, ← Array.getElem?_eq_getElem hq', hhp]
  have hWs : (gs Γ).WarmedH U.vm := State.WarmedH.trans (t := s') (by rw [hvm]; exact State.WarmedH.refl (gs Γ)) hW
  have hcl : (gs Γ).vm.findClass cls = some ce.cls := by
    have h9 := hO.cls
    rw [hvm] at h9
    exact h9
  have hall : (gs Γ).sameButNew ({ U with vm := (gs Γ).vm } : State) locs rm.cells rm.slots := by
    subst hs'
    obtain ⟨g1, g2⟩ := hsame
    rw [State.setFrames_setFrames] at g1
    have g3 : (T.setVm (gs Γ).vm).sameButNew ({ U with vm := (gs Γ).vm } : State) [] (0 + 1) (0 + 6) := ⟨g1, g2⟩
    have g4 := X.same.trans g3
    rw [List.append_nil] at g4
    exact g4.mono hcs.1 hcs.2
  have hF : va_F (fun q => gB Γ ≤ q) (gs Γ) U := ⟨Nat.le_trans h4.1 f1, fun q q1 q2 => (f2 q (Nat.lt_of_lt_of_le q1 h4.1)).trans (h4.2.1 q q1 q2)⟩
  refine ⟨U, st1 _ ?_, ?_⟩
  · show Steps (gp Γ).tables (ge Γ) (gb Γ) (T1.setTop { method := gm Γ, pc := pc + 3, locals := ls, stack := .ref T.heap.size :: st.map aj_v, locked := none }) _
    jvm_step X₁.here [X₁.here.top, G.1, e3, Value.category]
    exact X₁.ldcString G.1 (own := ym.cls) (text := text) (index := is) (a := sa) hown' hstr.1 hstr.2
      (g := { method := gm Γ, pc := pc + 4, locals := ls, stack := .ref T.heap.size :: .ref T.heap.size :: st.map aj_v, locked := none }) rfl e4 _ hsteps
  · rw [F.1]
    exact ⟨.threw T.heap.size, hrun, hend, Or.inr ⟨T.heap.size, cls, ce, (none, w.2), locs, rfl, hp, ⟨h2.kept f2, h3, hF⟩, hce, hO.vm, hcl, hWs, hall, h4.2.2⟩⟩
end
