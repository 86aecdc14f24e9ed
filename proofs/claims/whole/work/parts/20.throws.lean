/-! ===== methods that may throw ===== -/
/-- the words of a throw that speak of the heap -/
def aw_hw : List Cond := [.isRef (.static "java/lang/Throwable" "UNASSIGNED_STACK" "[Ljava/lang/StackTraceElement;"), .isRef (.static "java/lang/Throwable" "SUPPRESSED_SENTINEL" "Ljava/util/List;"), .laysStatic "java/lang/Throwable" "UNASSIGNED_STACK" "[Ljava/lang/StackTraceElement;", .laysStatic "java/lang/Throwable" "SUPPRESSED_SENTINEL" "Ljava/util/List;"]
theorem aw_Z.lays {n d : String} {base : Nat} {U : State} {A : Array Value} (h : aw_Z n d base U U.heap) : (Cond.laysStatic "java/lang/Throwable" n d).before A U = true := by
  obtain ⟨-, c, k, i, f, a, cell, h1, h2, h3, h4, h5, h6, h7, h8, h9, -⟩ := h
  show (Cond.laysStatic "java/lang/Throwable" n d).holds A U none U [] = true
  exact Cond.laysStatic_of h1 h2 h3 h4 h5 h6 h7 h8 h9
theorem aw_Zv {n d : String} {v : Value} {B : Nat → Prop} {U : State} {A : Array Value} (h : va_Z "java/lang/Throwable" n d v B U U.heap) (hv : v = .null ∨ ∃ t, v = .ref t) : (Cond.isRef (.static "java/lang/Throwable" n d)).before A U = true := by
  obtain ⟨cf, kf, fi, f, a, cell, h1, h2, h3, h4, h5, h6, h7, -⟩ := h
  have he : (Term.static "java/lang/Throwable" n d).eval A U none [] U = some v := by
    simp [Term.eval, State.fieldNamed?, h1, h2, h4, h5, h6, h7]
  simp only [Cond.before, Cond.holds, Cond.value, he]
  rcases hv with rfl | ⟨t, rfl⟩ <;> simp [Value.isRef]
theorem aw_Z.isRef {n d : String} {base : Nat} {U : State} {A : Array Value} (h : aw_Z n d base U U.heap) : (Cond.isRef (.static "java/lang/Throwable" n d)).before A U = true := by
  rcases h.1 with h | ⟨t, h⟩
  · exact aw_Zv h (Or.inl rfl)
  · exact aw_Zv h (Or.inr ⟨t, rfl⟩)
theorem aw_K.hw {D : va_G} {dA : Nat → ClassId} {base : Nat} {U : State} (h : aw_K D dA base U) {A : Array Value} {w : Cond} (hw : w ∈ aw_hw) : w.before A U = true := by
  simp only [aw_hw, List.mem_cons, List.not_mem_nil, or_false] at hw
  rcases hw with rfl | rfl | rfl | rfl
  · exact h.2.2.2.1.isRef
  · exact h.2.2.2.2.1.isRef
  · exact h.2.2.2.1.lays
  · exact h.2.2.2.2.1.lays
theorem aw_K.words {D : va_G} {dA : Nat → ClassId} {base : Nat} {U : State} (h : aw_K D dA base U) {A : Array Value} {w : Cond} (hw : w ∈ aw_hw ∨ w ∈ aw_ws) : w.before A U = true := by
  rcases hw with hw | hw
  · exact h.hw hw
  · exact aw_at (aw_ws_ok hw) (State.WarmedH.refl U) (h.2.1 w hw)
/-- how a method ends that may throw: as before, or with an object of the class E in the world w -/
def aj_xQ (D : va_G) (dA : Nat → ClassId) (base : Nat) (rm : Room) (post : Option aV → aw_W → Prop) (px : String → aw_W → Prop) : Array Value → State → Outcome → State → Prop := fun a st o t =>
  (aj_Qc D dA base post a st o t ∧ ∃ L, FrameEnd st o t L rm.cells rm.slots ∧ ∀ q ∈ L, base ≤ q.base) ∨
  (∃ (q : Addr) (E : String) (ce : Cell) (w : aw_W) (L : List Loc), o = .threw q ∧ px E w ∧ aj_post D dA base w st t ∧ t.heap[q]? = some ce ∧ ce.vm = .none ∧ st.vm.findClass E = some ce.cls ∧ st.WarmedH t.vm ∧ st.sameButNew ({ t with vm := st.vm } : State) L rm.cells rm.slots ∧ ∀ z ∈ L, base ≤ z.base)
def aj_Cx (l : Launch) (D : va_G) (dA : Nat → ClassId) (base : Nat) (M : aj_M) (rm : Room) (av : List aV) (w : aw_W) (post : Option aV → aw_W → Prop) (px : String → aw_W → Prop) : Prop :=
  MetFree l M.1 (headSpec [Cond.code M.1 M.2.1 M.2.2.1 M.2.2.2] rm) (aj_Pc D dA base av w) (fun _ _ _ _ _ => True) (aj_xQ D dA base rm post px)
def aj_finX (Γ : aj_G) (rm : Room) (post : Option aV → aw_W → Prop) (px : String → aw_W → Prop) : Prop :=
  gQ Γ = (fun t => ∃ o, t.status = .running ∧ Ended t (gb Γ) o ∧ aj_xQ (gD Γ) (gA Γ) (gB Γ) rm post px (ga Γ) (gs Γ) o t) ∧ ∀ x ∈ (gc Γ).exceptionTable.toList, False
theorem aj_finX.fin {Γ : aj_G} {rm : Room} {post : Option aV → aw_W → Prop} {px : String → aw_W → Prop} (F : aj_finX Γ rm post px) : aj_fin Γ rm post := by
  intro H locs g h T hT X
  obtain ⟨t, a1, o, b1, b2, b3, b4⟩ := h T hT X
  refine ⟨t, a1, ?_⟩
  rw [F.1]
  exact ⟨o, b1, b2, Or.inl ⟨b3, b4⟩⟩
theorem aj_enterX {l : Launch} {D : va_G} {dA : Nat → ClassId} {base : Nat} {M : aj_M} {rm : Room} {av : List aV} {w : aw_W} {post : Option aV → aw_W → Prop} {px : String → aw_W → Prop} (hl : l.stackTraces = false) (hy : plainName M.1.cls = true) (hn : aj_wd av ≤ M.2.2.1)
    (body : ∀ Γ : aj_G, aj_ok Γ M.1 M.2.1 M.2.2.1 M.2.2.2 rm → aj_finX Γ rm post px → aj_J Γ M.2.2.1 (0, 0) 0 (aj_args 0 av) [] w) : aj_Cx l D dA base M rm av w post px := by
  refine MetFree.of_bodyS (code := M.2.1) (maxLocals := M.2.2.1) (ret := M.2.2.2) hy ?_ ?_
  · intro args s m h hn
    obtain ⟨meth, c, h1, h2, h3, h4, h5, h6, -, -⟩ := Cond.code_spec hn (atoms_spec (ws := [Cond.code M.1 M.2.1 M.2.2.1 M.2.2.2]) h _ List.mem_cons_self)
    exact ⟨meth, c, h1, h2, h3, h4, h5, h6⟩
  · intro p e s m args below meth c s₁ B hml hv _
    obtain ⟨rfl, hK, hR, hI⟩ := hv
    have hh0 : s₁.heap = s.heap := by rw [B.state]; rfl
    have ht : ∀ x ∈ c.exceptionTable.toList, False := by
      obtain ⟨meth9, c9, h1, h2, -, -, -, -, h7, -⟩ := Cond.code_spec B.named (atoms_spec (ws := [Cond.code M.1 M.2.1 M.2.2.1 M.2.2.2]) B.pre _ List.mem_cons_self)
      cases Option.some.inj (h1.symm.trans B.method)
      cases Option.some.inj (h2.symm.trans (Stand.of_body B).code)
      intro x hx
      rw [Array.isEmpty_iff.mp h7] at hx
      cases hx
    have hl' := lv_entry (av.map aj_v) (n := M.2.2.1) (by rw [aj_sl_wd]; exact hn)
    rw [aj_args_lv] at hl'
    have K := body (p, l, e, (headSpec [Cond.code M.1 M.2.1 M.2.2.1 M.2.2.2] rm).room, s, m, (av.map aj_v).toArray, below, meth, c, (fun t => ∃ o, t.status = .running ∧ Ended t below o ∧ aj_xQ D dA base rm post px (av.map aj_v).toArray s o t), D, dA, base)
      ⟨B.exec, B.bytes, hml, findClass_of_methodNamed B.named, hK, B.notSynchronized, B.returns, hl, rfl, fun h9 => (name_of_methodNamed B.named B.method).1.trans h9⟩ ⟨rfl, ht⟩ _ s.heap [] hl' hR hI va_S.rf
    have X0 := Stand.of_body B
    have K2 := K s₁ hh0 X0
    have e1 : entryFrame m (av.map aj_v).toArray M.2.2.1 = F0 m 0 (lg_sl (av.map aj_v) ++ List.replicate (M.2.2.1 - (lg_sl (av.map aj_v)).length) Slot.unset).toArray [] := lg_entry_eq ..
    rw [e1]
    obtain ⟨t, a1, o, b1, b2, b3⟩ := K2
    exact ⟨t, o, a1, b1, b2, b3⟩
section
variable {p : Program} {l : Launch} {e : Env} {R : Room} {s : State} {m : MethodId} {args : Array Value} {below : List Frame} {meth : Method} {c : Code} {T : State} {locs : List Loc} {cells slots : Nat}
/-- the frame that runs, as if its method were called in the heap as it is now -/
theorem aj_anew (X : Stand p l e R s m args below meth c T locs cells slots) {R' : Room} (hf : R'.frames ≤ R.frames) (hl : R'.locals ≤ R.locals) (hc : cells + R'.cells ≤ R.cells) (hs : slots + R'.slots ≤ R.slots) :
    Stand p l e R' ((T.setVm s.vm).setFrames (.invoking m args :: below)) m args below meth c T [] 0 0 := by
  have htop : (T.setVm s.vm).topJava?.isSome := X.here.top
  have hF : ((T.setVm s.vm).setFrames (.invoking m args :: below)).frames = .invoking m args :: below := State.frames_setFrames _ (State.cur_lt_of_top htop)
  have hlim : e.platform.stackLimits (T.setVm s.vm).me = e.platform.stackLimits s.me := X.limits
  have hbyt : (T.setVm s.vm).me.stackBytes = s.me.stackBytes := X.bytes
  have hnil : T.heap.toList.drop T.heap.size = [] := List.drop_eq_nil_of_le (Nat.le_of_eq Array.length_toList)
  have hroom : ((T.setVm s.vm).setFrames (.invoking m args :: below)).hasRoom e.platform R' = true := by
    have hU : ((T.setVm s.vm).setFrames (.invoking m args :: below)).localsInUse = s.localsInUse := by
      rw [State.localsInUse_invoking hF (meth := meth) (c := c) X.method X.code, State.localsInUse_invoking X.frames X.method X.code]
    have h := X.room
    have q1 := X.heapSize
    have q2 := X.used
    simp only [State.hasRoom, Bool.and_eq_true, decide_eq_true_eq] at h ⊢
    obtain ⟨⟨⟨⟨h1, h2, h3, h4, h5, h6⟩, h7⟩, h8⟩, h9⟩ := h
    rw [X.frames, List.length_cons] at h2 h3
    simp only [hF, hU, List.length_cons, State.stackLimits_setFrames, State.stackBytes_setFrames, hlim, hbyt]
    have g7 : T.heap.size + R'.cells ≤ e.platform.maxCells := by omega
    have g8 : T.slotsUsed + R'.slots ≤ e.platform.maxSlots := by omega
    exact ⟨⟨⟨⟨by omega, by omega, by omega, by omega, by omega, h6⟩, g7⟩, g8⟩, X.book⟩
  have hsame : ((T.setVm s.vm).setFrames (.invoking m args :: below)).sameButNew (T.setVm s.vm) [] 0 0 := by
    obtain ⟨g0, hg0⟩ := Option.isSome_iff_exists.mp htop
    obtain ⟨r, hr⟩ := State.topJava?_eq_some.mp hg0
    obtain ⟨t, ht, -⟩ := State.frames_cons hr
    refine ⟨?_, Nat.le_refl _, Nat.le_refl _, ?_, ?_, fun a c9 h9 => ⟨c9, h9, rfl, rfl, fun _ _ => rfl⟩⟩
    · show T.setVm s.vm = { ((T.setVm s.vm).setFrames (.invoking m args :: below)).setFrames (T.setVm s.vm).frames with heap := T.heap, slotsUsed := T.slotsUsed }
      rw [State.setFrames_setFrames, State.setFrames_self ht]
      rfl
    · show T.slotsUsed = T.slotsUsed + ((T.heap.toList.drop T.heap.size).map (·.slots.size)).sum
      rw [hnil]
      rfl
    · show ((T.heap.toList.drop T.heap.size).map (·.slots.size)).sum ≤ 0
      rw [hnil]
      exact Nat.le_refl _
  exact ⟨X.admits, X.cas, X.clock, hF, hroom, X.hears, X.method, X.code, X.here, X.tail, X.warmed, by rw [State.stackLimits_setFrames]; rfl, by rw [State.stackBytes_setFrames]; rfl, hsame⟩
/-- a call of a method with a contract, from the step of the invocation on -/
theorem aj_invoked (X : Stand p l e R s m args below meth c T locs cells slots) {g : JFrame} (hg : g.method = m) (hsize : g.locals.size = c.maxLocals) {ig : Instr} {len : Nat} (hdg : decode c.code g.pc = .ok (ig, len)) {S : Spec} {y : MethodName} {P : Array Value → State → Prop} {Q : Array Value → State → Outcome → State → Prop} (hM : MetFree l y S P (fun _ _ _ _ _ => True) Q)
    {mk : MethodId} {a : Array Value} (hn : T.methodNamed? y = some mk) {methY : Method} {cY : Code} (hmY : T.vm.method? mk = some methY) (hcY : methY.code = some cY) (hini : (Cond.initialized y.cls).before a T = true) (hpre : S.pre.before a T = true) (hframes : S.room.frames + 1 ≤ R.frames) (hlocals : 2 * g.monitorRoom + (g.stack.map fun v => v.category).sum + (cY.maxLocals + 11) + S.room.locals ≤ R.locals) (hc : cells + S.room.cells ≤ R.cells) (hs : slots + S.room.slots ≤ R.slots) (hP : P a (T.calling g mk a)) :
    ∃ o s₂, Steps p.tables e below (doInvoke e (T.setTop g) [] mk a).1 s₂ ∧ Ended s₂ (.java g :: below) o ∧ Q a (T.calling g mk a) o s₂ := by
  obtain ⟨kY, hkY, -⟩ := className_of_methodNamed hn
  have hinitY : kY.init = .initialized := Cond.initialized_spec (findClass_of_methodNamed hn) hkY hini
  have h : At T g.method c below := by rw [hg]; exact X.here
  have happ : S.appliesLoose y e.platform (T.calling g mk a) = true :=
    Spec.appliesLoose_calling (g := g) h hdg hn hkY hinitY (X.room_calling (g := g) (R' := S.room) hsize hmY hcY hframes hlocals hc hs) hpre
  obtain ⟨mid, hmid⟩ := h.above
  have hfr : (T.setTop g).frames = (.java g :: mid) ++ below := by rw [State.frames_setTop' g h.top, hmid]; rfl
  obtain ⟨o, s₂, hsteps, -, hend, hq⟩ := Steps.callFree hM p X.admits X.cas X.clock (acts := []) hfr happ hP trivial
  rw [State.frames_setTop' g h.top, X.tail] at hend
  exact ⟨o, s₂, hsteps, hend, hq⟩
end
/-- an object of the class E is thrown over the frame -/
def aj_X (Γ : aj_G) (nL : Nat) (k : Nat × Nat) (pc : Nat) (lv : List (Nat × aV)) (st : List aV) (w : aw_W) (E : String) : Prop :=
  ∀ (ls : Array Slot) (H : Heap) (locs : List Loc) (q : Addr) (ce : Cell), lv_has ls nL (aj_lv lv) → aw_R (gD Γ) (gA Γ) w H → aw_In (gB Γ) w → va_S (fun q => gB Γ ≤ q) (gs Γ).heap H locs → H[q]? = some ce → ce.vm = .none → (gs Γ).vm.findClass E = some ce.cls →
    ∀ T : State, T.heap = H → Stand (gp Γ) (gl Γ) (ge Γ) (gR Γ) (gs Γ) (gm Γ) (ga Γ) (gb Γ) (gme Γ) (gc Γ) T locs k.1 k.2 → ∃ t, Steps (gp Γ).tables (ge Γ) (gb Γ) ((T.setTop (F0 (gm Γ) pc ls (st.map aj_v))).pushFrame (.throwing q)) t ∧ gQ Γ t
section
variable {Γ : aj_G} {ym : MethodName} {cc : ByteArray} {nL : Nat} {ret : Option FieldType} {rm : Room} {k : Nat × Nat} {pc : Nat} {lv : List (Nat × aV)} {st : List aV} {w w' : aw_W} {r : Option Nat} {ci kf index : Nat} {post : Option aV → aw_W → Prop} {px : String → aw_W → Prop}
theorem j_out {E9 : String} (G : aj_ok Γ ym cc nL ret rm) (F : aj_finX Γ rm post px) (hk : k.1 ≤ rm.cells ∧ k.2 ≤ rm.slots) (hp : px E9 w) : aj_X Γ nL k pc lv st w E9 := by
  intro ls H locs q ce h1 h2 h3 h4 h5 h6 h7 T hT X
  obtain ⟨st1, hrun, hend, hW, hsm⟩ := X.leaveThrown q (g := F0 (gm Γ) pc ls (st.map aj_v)) rfl rfl rfl (fun x hx => (F.2 x hx).elim) G.locks
  refine ⟨_, st1, ?_⟩
  rw [F.1]
  have hh : (T.setFrames (.throwing q :: gb Γ)).heap = H := hT
  exact ⟨.threw q, hrun, hend, Or.inr ⟨q, E9, ce, w, locs, rfl, hp, ⟨by rw [hh]; exact h2, h3, h4.F hh⟩, by rw [hh]; exact h5, h6, h7, hW, hsm.mono hk.1 hk.2, h4.2.2⟩⟩
/-- what comes back of a call: by the two ways -/
theorem aj_behind {M : aj_M} {rmc : Room} {pn : Option aV → aw_W → Prop} {pq : String → aw_W → Prop} {T1 : State} {H : Heap} {locs : List Loc} {ls : Array Slot} {mk : MethodId} {a : Array Value} {o : Outcome} {s₂ : State} {ig : Instr}
    (h1 : lv_has ls nL (aj_lv lv)) (h4 : va_S (fun q => gB Γ ≤ q) (gs Γ).heap H locs) (hT : T1.heap = H) (X : Stand (gp Γ) (gl Γ) (ge Γ) (gR Γ) (gs Γ) (gm Γ) (ga Γ) (gb Γ) (gme Γ) (gc Γ) T1 locs k.1 k.2)
    (hdg : decode (gc Γ).code pc = .ok (ig, 3)) (hend : Ended s₂ (.java (F0 (gm Γ) pc ls (st.map aj_v)) :: gb Γ) o) (hq : aj_xQ (gD Γ) (gA Γ) (gB Γ) rmc pn pq a (T1.calling (F0 (gm Γ) pc ls (st.map aj_v)) mk a) o s₂)
    (kn : ∀ v w', pn v w' → aj_J Γ nL (k.1 + rmc.cells, k.2 + rmc.slots) (pc + 3) lv (v.toList ++ st) w') (kx : ∀ E w', pq E w' → aj_X Γ nL (k.1 + rmc.cells, k.2 + rmc.slots) pc lv st w' E) :
    ∃ t, Steps (gp Γ).tables (ge Γ) (gb Γ) s₂ t ∧ gQ Γ t := by
  have grow : ∀ (H1 : Heap) (L : List Loc), H.size ≤ H1.size → (∀ q : Nat, q < H.size → ¬ gB Γ ≤ q → H1[q]? = H[q]?) → (∀ q ∈ L, gB Γ ≤ q.base) → va_S (fun q => gB Γ ≤ q) (gs Γ).heap H1 (locs ++ L) := by
    intro H1 L hz hk hL
    exact ⟨Nat.le_trans h4.1 hz, fun q q1 q2 => by rw [hk q (Nat.lt_of_lt_of_le q1 h4.1) q2]; exact h4.2.1 q q1 q2, fun q hq => by
      rcases List.mem_append.mp hq with h | h
      · exact h4.2.2 q h
      · exact hL q h⟩
  rcases hq with ⟨⟨v, w', rfl, hp, hR', hI', hF⟩, L, hfe, hL⟩ | ⟨q, E, ce, w', L, rfl, hp, ⟨hR', hI', hF⟩, hce, hcv, hcl, hW, hsm, hL⟩
  · obtain ⟨-, hW, hsm⟩ := hfe
    obtain ⟨T', X', -, -, ht⟩ := X.outOf (g := F0 (gm Γ) pc ls (st.map aj_v)) rfl hdg hend hW hsm
    have hh : s₂.heap = T'.heap := by rw [ht]; rfl
    obtain ⟨hz, hk⟩ := hF
    have hz' : H.size ≤ s₂.heap.size := by rw [← hT]; exact hz
    have hk' : ∀ q : Nat, q < H.size → ¬ gB Γ ≤ q → s₂.heap[q]? = H[q]? := fun q q1 q2 => by
      have := hk q (show q < T1.heap.size by rw [hT]; exact q1) q2
      rw [this]
      show T1.heap[q]? = H[q]?
      rw [hT]
    rw [hh] at hz' hk' hR'
    obtain ⟨t2, a1, b1⟩ := kn v w' hp ls T'.heap (locs ++ L) h1 hR' hI' (grow _ L hz' hk' hL) T' rfl X'
    rw [List.map_append, show (v.toList).map aj_v = (v.map aj_v).toList by cases v <;> rfl] at a1
    rw [ht]
    exact ⟨t2, a1, b1⟩
  · obtain ⟨T', X', -, -, ht⟩ := X.outOfThrown (g := F0 (gm Γ) pc ls (st.map aj_v)) rfl hend hW hsm
    have hh : s₂.heap = T'.heap := by rw [ht]; rfl
    obtain ⟨hz, hk⟩ := hF
    have hz' : H.size ≤ s₂.heap.size := by rw [← hT]; exact hz
    have hk' : ∀ q : Nat, q < H.size → ¬ gB Γ ≤ q → s₂.heap[q]? = H[q]? := fun q q1 q2 => by
      have := hk q (show q < T1.heap.size by rw [hT]; exact q1) q2
      rw [this]
      show T1.heap[q]? = H[q]?
      rw [hT]
    rw [hh] at hz' hk' hR' hce
    have hcl' : (gs Γ).vm.findClass E = some ce.cls := by
      have h9 : T1.vm.findClass E = some ce.cls := hcl
      rw [X.warmed.alike.findClass] at h9
      exact h9
    obtain ⟨t2, a1, b1⟩ := kx E w' hp ls T'.heap (locs ++ L) q ce h1 hR' hI' (grow _ L hz' hk' hL) hce hcv hcl' T' rfl X'
    rw [ht]
    exact ⟨t2, a1, b1⟩
end
