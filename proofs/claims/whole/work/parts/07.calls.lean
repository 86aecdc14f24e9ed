/-! ===== contracts, ends, calls ===== -/
def aj_post (D : va_G) (dA : Nat → ClassId) (base : Nat) (w : aw_W) (st t : State) : Prop := aw_R D dA w t.heap ∧ aw_In base w ∧ va_F (fun q => base ≤ q) st t
def aj_Qc (D : va_G) (dA : Nat → ClassId) (base : Nat) (post : Option aV → aw_W → Prop) : Array Value → State → Outcome → State → Prop := fun _ st oc t => ∃ (v : Option aV) (w : aw_W), oc = .returned (v.map aj_v) ∧ post v w ∧ aj_post D dA base w st t
def aj_Pc (D : va_G) (dA : Nat → ClassId) (base : Nat) (av : List aV) (w : aw_W) : Array Value → State → Prop := va_Pc (av.map aj_v) (fun U => aw_K D dA base U ∧ aw_R D dA w U.heap ∧ aw_In base w)
/-- the contract: from every state that holds the world w the method with the arguments av comes to its end: it answers v with the world w' (post v w') -/
def aj_Ct (l : Launch) (D : va_G) (dA : Nat → ClassId) (base : Nat) (M : aj_M) (rm : Room) (av : List aV) (w : aw_W) (post : Option aV → aw_W → Prop) : Prop :=
  Met l M.1 [Cond.code M.1 M.2.1 M.2.2.1 M.2.2.2] rm (aj_Pc D dA base av w) (aj_Qc D dA base post) rm.cells rm.slots (fun q => base ≤ q)
/-- an end by 'return' is an end of the method -/
def aj_fin (Γ : aj_G) (rm : Room) (post : Option aV → aw_W → Prop) : Prop :=
  ∀ (H : Heap) (locs : List Loc) (g : JFrame), W (gp Γ) (gl Γ) (ge Γ) (gR Γ) (gs Γ) (gm Γ) (ga Γ) (gb Γ) (gme Γ) (gc Γ) H locs rm.cells rm.slots (MQ (gb Γ) (aj_Qc (gD Γ) (gA Γ) (gB Γ) post) (ga Γ) (gs Γ) rm.cells rm.slots (fun q => gB Γ ≤ q)) g → W (gp Γ) (gl Γ) (ge Γ) (gR Γ) (gs Γ) (gm Γ) (ga Γ) (gb Γ) (gme Γ) (gc Γ) H locs rm.cells rm.slots (gQ Γ) g
theorem aj_blind {D : va_G} {dA : Nat → ClassId} {base : Nat} {av : List aV} {w : aw_W} : FrameBlind (aj_Pc D dA base av w) :=
  fun a U g mk h => ⟨h.1, h.2.1.warm (U := U.calling g mk a) (State.WarmedH.refl U) (Nat.le_refl _) (fun _ _ _ => rfl), h.2.2.1, h.2.2.2⟩
theorem aj_enter {l : Launch} {D : va_G} {dA : Nat → ClassId} {base : Nat} {M : aj_M} {rm : Room} {av : List aV} {w : aw_W} {post : Option aV → aw_W → Prop} (hl : l.stackTraces = false) (hy : plainName M.1.cls = true) (hn : aj_wd av ≤ M.2.2.1)
    (body : ∀ Γ : aj_G, aj_ok Γ M.1 M.2.1 M.2.2.1 M.2.2.2 rm → aj_fin Γ rm post → aj_J Γ M.2.2.1 (0, 0) 0 (aj_args 0 av) [] w) : aj_Ct l D dA base M rm av w post := by
  refine Met.ofW hy rfl ?_
  intro p e s m args below meth c s₁ B hml hv
  obtain ⟨rfl, hK, hR, hI⟩ := hv
  have hl' := lv_entry (av.map aj_v) (n := M.2.2.1) (by rw [aj_sl_wd]; exact hn)
  rw [aj_args_lv] at hl'
  rw [lg_entry_eq]
  exact body (p, l, e, (headSpec [Cond.code M.1 M.2.1 M.2.2.1 M.2.2.2] rm).room, s, m, (av.map aj_v).toArray, below, meth, c, MQ below (aj_Qc D dA base post) (av.map aj_v).toArray s rm.cells rm.slots (fun q => base ≤ q), D, dA, base)
    ⟨B.exec, B.bytes, hml, findClass_of_methodNamed B.named, hK, B.notSynchronized, B.returns, hl, rfl, fun h9 => (name_of_methodNamed B.named B.method).1.trans h9⟩ (fun _ _ _ h => h) _ s.heap [] hl' hR hI va_S.rf
section
variable {Γ : aj_G} {ym : MethodName} {cc : ByteArray} {nL : Nat} {ret : Option FieldType} {rm : Room} {k : Nat × Nat} {pc : Nat} {lv : List (Nat × aV)} {st : List aV} {w w' : aw_W} {r : Option Nat} {ci kf index : Nat} {post : Option aV → aw_W → Prop}
theorem j_iret {v : Int32} (G : aj_ok Γ ym cc nL (some .int) rm) (E : aj_fin Γ rm post) (d : decode cc pc = .ok (.ireturn, 1)) (hk : k.1 ≤ rm.cells ∧ k.2 ≤ rm.slots) (hp : post (some (aI v)) w) : aj_J Γ nL k pc lv [aI v] w := by
  intro ls H locs h1 h2 h3 h4
  exact W.widen hk.1 hk.2 (E _ _ _ (W.iret G.1 G.2.1 G.retT (fun t ht hW => ⟨some (aI v), w, rfl, hp, by rw [ht]; exact h2, h3, h4.F ht⟩) h4.2.2 d G.locks))
theorem j_zret {v : Int32} (G : aj_ok Γ ym cc nL (some .boolean) rm) (E : aj_fin Γ rm post) (d : decode cc pc = .ok (.ireturn, 1)) (hk : k.1 ≤ rm.cells ∧ k.2 ≤ rm.slots) (hv : narrow .boolean (.int v) = .int v) (hp : post (some (aI v)) w) : aj_J Γ nL k pc lv [aI v] w := by
  intro ls H locs h1 h2 h3 h4
  exact W.widen hk.1 hk.2 (E _ _ _ (W.zret G.1 G.2.1 G.retT hv (fun t ht hW => ⟨some (aI v), w, rfl, hp, by rw [ht]; exact h2, h3, h4.F ht⟩) h4.2.2 d G.locks))
theorem j_lret {v : Int64} (G : aj_ok Γ ym cc nL (some .long) rm) (E : aj_fin Γ rm post) (d : decode cc pc = .ok (.lreturn, 1)) (hk : k.1 ≤ rm.cells ∧ k.2 ≤ rm.slots) (hp : post (some (aL v)) w) : aj_J Γ nL k pc lv [aL v] w := by
  intro ls H locs h1 h2 h3 h4
  exact W.widen hk.1 hk.2 (E _ _ _ (W.lret G.1 G.2.1 G.retT (fun t ht hW => ⟨some (aL v), w, rfl, hp, by rw [ht]; exact h2, h3, h4.F ht⟩) h4.2.2 d G.locks))
theorem j_aret {C : String} (G : aj_ok Γ ym cc nL (some (.object C)) rm) (E : aj_fin Γ rm post) (d : decode cc pc = .ok (.areturn, 1)) (hk : k.1 ≤ rm.cells ∧ k.2 ≤ rm.slots) (hp : post (some (aRf r)) w) : aj_J Γ nL k pc lv [aRf r] w := by
  intro ls H locs h1 h2 h3 h4
  refine W.widen hk.1 hk.2 (E _ _ _ (W.aret G.1 G.2.1 G.retT (Or.inl ⟨C, rfl⟩) ?_ (fun t ht hW => ⟨some (aRf r), w, rfl, hp, by rw [ht]; exact h2, h3, h4.F ht⟩) h4.2.2 d G.locks))
  cases r with
  | none => exact Or.inl rfl
  | some a => exact Or.inr ⟨a, rfl⟩
theorem j_vret (G : aj_ok Γ ym cc nL none rm) (E : aj_fin Γ rm post) (d : decode cc pc = .ok (.return_, 1)) (hk : k.1 ≤ rm.cells ∧ k.2 ≤ rm.slots) (hp : post none w) : aj_J Γ nL k pc lv [] w := by
  intro ls H locs h1 h2 h3 h4
  exact W.widen hk.1 hk.2 (E _ _ _ (W.vret G.1 G.2.1 G.retT (fun t ht hW => ⟨none, w, rfl, hp, by rw [ht]; exact h2, h3, h4.F ht⟩) h4.2.2 d G.locks))
theorem j_run {mc ms : Nat} {A : Array Value} {st0 : List aV} {pn : Option aV → aw_W → Prop}
    (hr : ∀ (ls : Array Slot) (H : Heap) (locs : List Loc), lv_has ls nL (aj_lv lv) → aw_R (gD Γ) (gA Γ) w H → aw_In (gB Γ) w → va_S (fun q => gB Γ ≤ q) (gs Γ).heap H locs →
      va_Run (gp Γ) (gl Γ) (ge Γ) (gR Γ) (gs Γ) (gm Γ) (ga Γ) (gb Γ) (gme Γ) (gc Γ) H locs k.1 k.2 mc ms (F0 (gm Γ) pc ls (st0.map aj_v)) (st.map aj_v) (aj_Qc (gD Γ) (gA Γ) (gB Γ) pn A) (fun q => gB Γ ≤ q))
    (kn : ∀ v w', pn v w' → aj_J Γ nL (k.1 + mc, k.2 + ms) (pc + 3) lv (v.toList ++ st) w') : aj_J Γ nL k pc lv st0 w := by
  intro ls H locs h1 h2 h3 h4 T hT X
  obtain ⟨v, st₀, t, T', L, h0, X', hL, e1, e2, ⟨v', w', hv, hp, hR', hI', hF⟩, sg⟩ := hr ls H locs h1 h2 h3 h4 T hT X
  cases hv
  obtain ⟨hz, hk⟩ := hF
  rw [h0] at hz hk
  have k3 : va_S (fun q => gB Γ ≤ q) (gs Γ).heap T'.heap (locs ++ L) := ⟨Nat.le_trans h4.1 (by rw [e1]; exact hz), fun q q1 q2 => by rw [e1, hk q (Nat.lt_of_lt_of_le q1 h4.1) q2]; exact h4.2.1 q q1 q2, fun q hq => by
    rcases List.mem_append.mp hq with h | h
    · exact h4.2.2 q h
    · exact hL q h⟩
  obtain ⟨t2, a1, b1⟩ := kn v' w' hp ls T'.heap (locs ++ L) h1 (by rw [e1]; exact hR') hI' k3 T' rfl X'
  rw [List.map_append, show (v'.toList).map aj_v = (v'.map aj_v).toList by cases v' <;> rfl] at a1
  exact ⟨t2, sg t2 a1, b1⟩
/-- what the tables say of a method that is called -/
def aw_Mw (M : aj_M) (n : Nat) : Prop := Cond.code M.1 M.2.1 M.2.2.1 M.2.2.2 ∈ aw_ws ∧ Cond.initialized M.1.cls ∈ aw_ws ∧ (M.1.cls ≠ "java/lang/invoke/MethodHandle" ∧ M.1.cls ≠ "java/lang/invoke/VarHandle") ∧ (parseMethodDescriptor M.1.desc).map (fun d => d.parameters.length) = some n
def aw_Mi (M : aj_M) : Prop := Cond.instanceMethod M.1 ∈ aw_ws ∧ Cond.selects M.1.cls M.1 M.1 ∈ aw_ws
def aw_L (own : String) (index : Nat) (y : MethodName) : Prop := Cond.methodLink own index y ∈ aw_ws ∨ ∃ host, Cond.methodLinkNest own index y host ∈ aw_ws
theorem aw_Mw.len {M : aj_M} {n : Nat} (h : aw_Mw M n) : ∀ sig, parseMethodDescriptor M.1.desc = some sig → n = sig.parameters.length := by
  intro sig hs
  have h2 := h.2.2.2
  rw [hs] at h2
  exact (Option.some.inj h2).symm
theorem aj_ok.warm (G : aj_ok Γ ym cc nL ret rm) {H : Heap} {locs : List Loc} (h4 : va_S (fun q => gB Γ ≤ q) (gs Γ).heap H locs) {U : State} (hU : U.heap = H) (hW : (gs Γ).WarmedH U.vm) : aw_K (gD Γ) (gA Γ) (gB Γ) U :=
  G.K.warm hW (by rw [hU]; exact h4.1) (fun q h1 h2 => by rw [hU]; exact h4.2.1 q h1 h2)
theorem aj_ok.words (G : aj_ok Γ ym cc nL ret rm) {c : Cond} (hc : c ∈ aw_ws) : ∀ w ∈ [c], ∀ (a' : Array Value) (U : State), (gs Γ).WarmedH U.vm → w.before a' U = true := by
  intro w hw a' U hW
  rw [List.mem_singleton.mp hw]
  exact aw_at (aw_ws_ok hc) hW (G.K.2.1 _ hc)
theorem j_callV {M : aj_M} {rmc : Room} {n : Nat} {As st0 : List aV} {T : u_T} {N : Nat} {q0 : Nat × List Value} {pn : Option aV → aw_W → Prop} (G : aj_ok Γ ym cc nL ret rm) (d : decode cc pc = .ok (.invokevirtual index, 3)) (hM : aj_Ct (gl Γ) (gD Γ) (gA Γ) (gB Γ) M rmc (aRf r :: As) w pn)
    (hw : aw_Mw M n) (hi : aw_Mi M) (hL : aw_L ym.cls index M.1) (hc : aCl[ci]? = some (M.1.cls, T, N)) (ho : aw_obj w r ci = some q0) (hn : As.length = n) (hst : st0 = As.reverse ++ aRf r :: st) (hW : aj_wd st ≤ 8) (hf : rmc.frames + 1 ≤ rm.frames ∧ 8 + (M.2.2.1 + 11) + rmc.locals ≤ rm.locals) (hcs : k.1 + rmc.cells ≤ rm.cells ∧ k.2 + rmc.slots ≤ rm.slots)
    (kn : ∀ v w', pn v w' → aj_J Γ nL (k.1 + rmc.cells, k.2 + rmc.slots) (pc + 3) lv (v.toList ++ st) w') : aj_J Γ nL k pc lv st0 w := by
  refine j_run (pn := pn) (A := ((aRf r :: As).map aj_v).toArray) (mc := rmc.cells) (ms := rmc.slots) ?_ kn
  intro ls H locs h1 h2 h3 h4
  obtain ⟨rfl, ha⟩ := aw_obj_some ho
  have hrcv : ∃ cellB : Cell, H[q0.1]? = some cellB ∧ cellB.vm.isStatics = false ∧ (gs Γ).vm.findClass M.1.cls = some cellB.cls := va_recv (q0 := 0) (fs := q0.2) G.K.1 (h2.cell ha) hc rfl
  have hpre : PreV (gs Γ) H M.1.cls q0.1 (aj_Pc (gD Γ) (gA Γ) (gB Γ) (aRf (some q0.1) :: As) w) (As.map aj_v) := ⟨aj_blind, hrcv, fun U hU hW => ⟨rfl, G.warm h4 hU hW, by rw [hU]; exact h2, h3⟩⟩
  have hfr : rmc.frames + 1 ≤ (gR Γ).frames := by rw [G.room]; exact hf.1
  have hlo : 8 + (M.2.2.1 + 11) + rmc.locals ≤ (gR Γ).locals := by rw [G.room]; exact hf.2
  have hcs' : k.1 + rmc.cells ≤ (gR Γ).cells ∧ k.2 + rmc.slots ≤ (gR Γ).slots := by rw [G.room]; exact hcs
  rcases hL with hL | ⟨host, hL⟩
  · exact va_runV (Ts := []) (n := n) (ws := [Cond.code M.1 M.2.1 M.2.2.1 M.2.2.2]) ⟨G.1, G.2.1, G.maxL, G.own, fun _ h => nomatch h⟩ hM ⟨⟨rfl, rfl, hfr, hlo, G.words hw.1, List.mem_singleton_self _, G.word hw.1, G.word hw.2.1, hw.2.2.1, hw.len, G.word hL⟩, G.word hi.1, G.word hi.2⟩ hpre rfl (by rw [List.length_map]; exact hn) h1.1 (by rw [hst]; simp [aj_v, va_rf]) (by rw [aj_wd_sum]; simpa using hW) d hcs'
  · exact va_runVN (Ts := []) (n := n) (ws := [Cond.code M.1 M.2.1 M.2.2.1 M.2.2.2]) ⟨G.1, G.2.1, G.maxL, G.own, fun _ h => nomatch h⟩ hM ⟨⟨⟨rfl, rfl, hfr, hlo, G.words hw.1, List.mem_singleton_self _⟩, G.word hw.1, G.word hw.2.1, hw.2.2.1, hw.len, G.word hL⟩, G.word hi.1, G.word hi.2⟩ hpre rfl (by rw [List.length_map]; exact hn) h1.1 (by rw [hst]; simp [aj_v, va_rf]) (by rw [aj_wd_sum]; simpa using hW) d hcs'
theorem j_callS {M : aj_M} {rmc : Room} {n : Nat} {As st0 : List aV} {pn : Option aV → aw_W → Prop} (G : aj_ok Γ ym cc nL ret rm) (d : decode cc pc = .ok (.invokestatic index, 3)) (hM : aj_Ct (gl Γ) (gD Γ) (gA Γ) (gB Γ) M rmc As w pn)
    (hw : aw_Mw M n) (hi : Cond.static M.1 ∈ aw_ws) (hL : aw_L ym.cls index M.1) (hn : As.length = n) (hst : st0 = As.reverse ++ st) (hW : aj_wd st ≤ 8) (hf : rmc.frames + 1 ≤ rm.frames ∧ 8 + (M.2.2.1 + 11) + rmc.locals ≤ rm.locals) (hcs : k.1 + rmc.cells ≤ rm.cells ∧ k.2 + rmc.slots ≤ rm.slots)
    (kn : ∀ v w', pn v w' → aj_J Γ nL (k.1 + rmc.cells, k.2 + rmc.slots) (pc + 3) lv (v.toList ++ st) w') : aj_J Γ nL k pc lv st0 w := by
  refine j_run (pn := pn) (A := (As.map aj_v).toArray) (mc := rmc.cells) (ms := rmc.slots) ?_ kn
  intro ls H locs h1 h2 h3 h4
  have hpre : PreS (gs Γ) H (aj_Pc (gD Γ) (gA Γ) (gB Γ) As w) (As.map aj_v) := ⟨aj_blind, fun U hU hW => ⟨rfl, G.warm h4 hU hW, by rw [hU]; exact h2, h3⟩⟩
  have hfr : rmc.frames + 1 ≤ (gR Γ).frames := by rw [G.room]; exact hf.1
  have hlo : 8 + (M.2.2.1 + 11) + rmc.locals ≤ (gR Γ).locals := by rw [G.room]; exact hf.2
  have hcs' : k.1 + rmc.cells ≤ (gR Γ).cells ∧ k.2 + rmc.slots ≤ (gR Γ).slots := by rw [G.room]; exact hcs
  rcases hL with hL | ⟨host, hL⟩
  · exact va_runS (Ts := []) (n := n) (ws := [Cond.code M.1 M.2.1 M.2.2.1 M.2.2.2]) ⟨G.1, G.2.1, G.maxL, G.own, fun _ h => nomatch h⟩ hM ⟨⟨rfl, rfl, hfr, hlo, G.words hw.1, List.mem_singleton_self _, G.word hw.1, G.word hw.2.1, hw.2.2.1, hw.len, G.word hL⟩, G.word hi⟩ hpre rfl (by rw [List.length_map]; exact hn) h1.1 (by rw [hst]; simp [aj_v, va_rf]) (by rw [aj_wd_sum]; simpa using hW) d hcs'
  · exact va_runSN (Ts := []) (n := n) (ws := [Cond.code M.1 M.2.1 M.2.2.1 M.2.2.2]) ⟨G.1, G.2.1, G.maxL, G.own, fun _ h => nomatch h⟩ hM ⟨⟨⟨rfl, rfl, hfr, hlo, G.words hw.1, List.mem_singleton_self _⟩, G.word hw.1, G.word hw.2.1, hw.2.2.1, hw.len, G.word hL⟩, G.word hi, trivial⟩ hpre rfl (by rw [List.length_map]; exact hn) h1.1 (by rw [hst]; simp [aj_v, va_rf]) (by rw [aj_wd_sum]; simpa using hW) d hcs'
end
