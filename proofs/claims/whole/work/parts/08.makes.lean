/-! ===== new objects and arrays; constructors ===== -/
section
variable {Γ : aj_G} {ym : MethodName} {cc : ByteArray} {nL : Nat} {ret : Option FieldType} {rm : Room} {k : Nat × Nat} {pc : Nat} {lv : List (Nat × aV)} {st : List aV} {w w' : aw_W} {r : Option Nat} {ci kf index : Nat}
theorem aj_ok.base (G : aj_ok Γ ym cc nL ret rm) {H : Heap} {locs : List Loc} (h4 : va_S (fun q => gB Γ ≤ q) (gs Γ).heap H locs) : gB Γ ≤ H.size := Nat.le_trans G.K.2.2.2.2.2.1 h4.1
theorem aj_grow {H H1 : Heap} {locs : List Loc} (h4 : va_S (fun q => gB Γ ≤ q) (gs Γ).heap H locs) (hz : H.size ≤ H1.size) (o1 : ∀ q : Nat, q < H.size → H1[q]? = H[q]?) : va_S (fun q => gB Γ ≤ q) (gs Γ).heap H1 locs :=
  ⟨Nat.le_trans h4.1 hz, fun q q1 q2 => (o1 q (Nat.lt_of_lt_of_le q1 h4.1)).trans (h4.2.1 q q1 q2), h4.2.2⟩
theorem j_new {C : String} {T : u_T} {N z : Nat} {fs : List Value} (ty : Nat → FieldType) (G : aj_ok Γ ym cc nL ret rm) (d : decode cc pc = .ok (.new index, 3)) (hc : aCl[ci]? = some (C, T, N)) (hty : ∀ k, k < N → parseFieldDescriptor (T k).2.2.1 = some (ty k)) (hU : ∀ w ∈ u_ws C T N, w ∈ aw_ws) (hl : Cond.classLink ym.cls index C ∈ aw_ws) (hi : Cond.instantiable C N ∈ aw_ws) (hini : Cond.initialized C ∈ aw_ws)
    (hz : w.1 = some z) (hfs : ∀ j, j < N → defaultValue (ty j) = vp_V fs j) (hcs : k.1 + 1 ≤ rm.cells ∧ k.2 + N ≤ rm.slots) (h : aj_J Γ nL (k.1 + 1, k.2 + N) (pc + 3) lv (aRf (some z) :: st) (aw_add w z (.inr (ci, fs)))) : aj_J Γ nL k pc lv st w := by
  intro ls H locs h1 h2 h3 h4
  have hs := h2.1 z hz
  have hKn := G.K.1.1 ci _ hc
  have hcs' : k.1 + 1 ≤ (gR Γ).cells ∧ k.2 + N ≤ (gR Γ).slots := by rw [G.room]; exact hcs
  have hts : ∀ w ∈ u_ws C T N, w.before (ga Γ) (gs Γ) = true := fun w hw => G.word (hU w hw)
  refine W.newcK G.1 G.2.1 G.own (G.word hl) (G.word hi) (G.word hini) rfl d hcs'.1 hcs'.2 hKn.2.1 hs fun H1 kC hkC e1 z1 o1 => ?_
  exact h ls H1 locs h1 (h2.add hs ⟨_, hc, (u_born ty hts (fun w hw => hw) hKn hkC e1 hty).to hfs⟩ z1 o1) (h3.add (by rw [← hs]; exact G.base h4)) (aj_grow h4 (by omega) (fun q hq => o1 q (by omega)))
theorem j_newa {atype : ArrayType} {t z N : Nat} {ty : FieldType} {n : Int32} {a0 : vp_A} (G : aj_ok Γ ym cc nL ret rm) (d : decode cc pc = .ok (.newarray atype, 2)) (hw : Cond.arrayClass (newarray.typeOf atype) ∈ aw_ws) (hty : newarray.typeOf atype = ty) (hra : (gs Γ).vm.findClass ("[" ++ ty.toString) = some (gA Γ t))
    (ha : ∀ cA : ClassId, vp_cell cA a0 = arrV cA N (fun _ => defaultValue ty)) (hn : ¬ n < 0) (hN : n.toNatClampNeg = N) (hb : N * componentBytes ty ≤ 536870912) (hz : w.1 = some z) (hcs : k.1 + 1 ≤ rm.cells ∧ k.2 + N ≤ rm.slots) (h : aj_J Γ nL (k.1 + 1, k.2 + N) (pc + 2) lv (aRf (some z) :: st) (aw_add w z (.inl (t, a0)))) : aj_J Γ nL k pc lv (aI n :: st) w := by
  intro ls H locs h1 h2 h3 h4
  subst hty
  have hs := h2.1 z hz
  have hcs' : k.1 + 1 ≤ (gR Γ).cells ∧ k.2 + N ≤ (gR Γ).slots := by rw [G.room]; exact hcs
  refine va_newaK G.1 G.2.1 (G.word hw) rfl d rfl hn hN hb hcs'.1 hcs'.2 hs fun H1 cA e1 z1 o1 hAr hNm => ?_
  have hcA : cA = gA Γ t := Option.some.inj (hNm.symm.trans hra)
  subst hcA
  refine h ls H1 locs h1 (h2.add hs ?_ z1 o1) (h3.add (by rw [← hs]; exact G.base h4)) (aj_grow h4 (by omega) (fun q hq => o1 q (by omega)))
  show H1[z]? = some (vp_cell _ _)
  rw [ha]
  exact e1
theorem j_anew {t z N : Nat} {C : String} {n : Int32} (G : aj_ok Γ ym cc nL ret rm) (d : decode cc pc = .ok (.anewarray index, 3)) (hl : Cond.classLink ym.cls index C ∈ aw_ws) (ho : Cond.arrayOver (.object C) ∈ aw_ws) (ht : (aw_tys (gA Γ))[t]? = some (gA Γ t, .object C))
    (hn : ¬ n < 0) (hN : n.toNatClampNeg = N) (hb : N * 4 ≤ 536870912) (hz : w.1 = some z) (hcs : k.1 + 1 ≤ rm.cells ∧ k.2 + N ≤ rm.slots) (h : aj_J Γ nL (k.1 + 1, k.2 + N) (pc + 3) lv (aRf (some z) :: st) (aw_add w z (.inl (t, N, .inr (.inr (.inr (.inr (fun _ => none)))))))) : aj_J Γ nL k pc lv (aI n :: st) w := by
  intro ls H locs h1 h2 h3 h4
  subst hN
  have hs := h2.1 z hz
  subst hs
  have hcs' : k.1 + 1 ≤ (gR Γ).cells ∧ k.2 + n.toNatClampNeg ≤ (gR Γ).slots := by rw [G.room]; exact hcs
  refine W.anew G.1 G.2.1 G.own (G.word hl) (G.word ho) rfl d rfl hn hb hcs'.1 hcs'.2 fun cA kA comp f1 f2 f3 f4 => ?_
  obtain ⟨kA', comp', g1, g2, g3, g4⟩ := (G.K.1.2 t _ ht).2
  have hcA : cA = gA Γ t := Option.some.inj (f1.symm.trans g4)
  subst hcA
  generalize hH1 : H.push ({ cls := gA Γ t, slots := Array.replicate n.toNatClampNeg .null, vm := .none } : Cell) = H1
  have z1 : H1.size = H.size + 1 := by rw [← hH1, Array.size_push]
  have e1 : H1[H.size]? = some (arrV (gA Γ t) n.toNatClampNeg (fun _ => .null)) := by rw [← hH1, Array.getElem?_push_size, ← arrV_new]
  have o1 : ∀ q : Nat, q < H.size → H1[q]? = H[q]? := fun q hq => by rw [← hH1, Array.getElem?_push, if_neg (Nat.ne_of_lt hq)]
  refine h ls H1 locs h1 (h2.add rfl ?_ z1 o1) (h3.add (G.base h4)) (aj_grow h4 (by omega) o1)
  show H1[H.size]? = some (vp_cell (gA Γ t) (n.toNatClampNeg, .inr (.inr (.inr (.inr (fun _ => none))))))
  rw [vp_cell_q]
  exact e1
theorem j_objInit {a : Nat} (G : aj_ok Γ ym cc nL ret rm) (d : decode cc pc = .ok (.invokespecial index, 3)) (hl : Cond.methodLink ym.cls index objectInit ∈ aw_ws) (hi : Cond.instanceMethod objectInit ∈ aw_ws) (hc : Cond.code objectInit ⟨#[0xb1]⟩ 1 none ∈ aw_ws) (hf : 1 ≤ rm.frames ∧ aj_wd st + 12 ≤ rm.locals) (h : aj_J Γ nL k (pc + 3) lv st w) : aj_J Γ nL k pc lv (aRf (some a) :: st) w := by
  intro ls H locs h1 h2 h3 h4
  have hf' : 1 ≤ (gR Γ).frames ∧ aj_wd st + 12 ≤ (gR Γ).locals := by rw [G.room]; exact hf
  exact W.objInit G.1 G.2.1 G.own (G.word hl) (G.word hi) (G.word hc) rfl (h1.1.trans G.maxL.symm) rfl d hf'.1 (by rw [aj_wd_sum]; simpa using hf'.2) (h ls H locs h1 h2 h3 h4)
theorem j_callI {M : aj_M} {rmc : Room} {n a : Nat} {As st0 : List aV} {pn : Option aV → aw_W → Prop} (G : aj_ok Γ ym cc nL ret rm) (d : decode cc pc = .ok (.invokespecial index, 3)) (hM : aj_Ct (gl Γ) (gD Γ) (gA Γ) (gB Γ) M rmc (aRf (some a) :: As) w pn) (hy : M.1.name = "<init>") (hre : M.2.2.2 = none)
    (hw : aw_Mw M n) (hi : Cond.instanceMethod M.1 ∈ aw_ws) (hL : aw_L ym.cls index M.1) (hn : As.length = n) (hst : st0 = As.reverse ++ aRf (some a) :: st) (hW : aj_wd st ≤ 8) (hf : rmc.frames + 1 ≤ rm.frames ∧ 8 + (M.2.2.1 + 11) + rmc.locals ≤ rm.locals) (hcs : k.1 + rmc.cells ≤ rm.cells ∧ k.2 + rmc.slots ≤ rm.slots)
    (kn : ∀ v w', pn v w' → aj_J Γ nL (k.1 + rmc.cells, k.2 + rmc.slots) (pc + 3) lv (v.toList ++ st) w') : aj_J Γ nL k pc lv st0 w := by
  refine j_run (pn := pn) (A := ((aRf (some a) :: As).map aj_v).toArray) (mc := rmc.cells) (ms := rmc.slots) ?_ kn
  intro ls H locs h1 h2 h3 h4
  have hpre : PreS (gs Γ) H (aj_Pc (gD Γ) (gA Γ) (gB Γ) (aRf (some a) :: As) w) (.ref a :: As.map aj_v) := ⟨aj_blind, fun U hU hW => ⟨rfl, G.warm h4 hU hW, by rw [hU]; exact h2, h3⟩⟩
  have hfr : rmc.frames + 1 ≤ (gR Γ).frames := by rw [G.room]; exact hf.1
  have hlo : 8 + (M.2.2.1 + 11) + rmc.locals ≤ (gR Γ).locals := by rw [G.room]; exact hf.2
  have hcs' : k.1 + rmc.cells ≤ (gR Γ).cells ∧ k.2 + rmc.slots ≤ (gR Γ).slots := by rw [G.room]; exact hcs
  obtain ⟨y, bytes, maxL, rt⟩ := M
  dsimp only at hre hy
  subst hre
  rcases hL with hL | ⟨host, hL⟩
  · exact va_runI (Ts := []) (n := n) (ws := [Cond.code y bytes maxL none]) ⟨G.1, G.2.1, G.maxL, G.own, fun _ h => nomatch h⟩ hM ⟨⟨rfl, rfl, hfr, hlo, G.words hw.1, List.mem_singleton_self _, G.word hw.1, G.word hw.2.1, hw.2.2.1, hw.len, G.word hL⟩, hy, G.word hi⟩ hpre rfl (by rw [List.length_map]; exact hn) h1.1 (by rw [hst]; simp [aj_v, va_rf]) (by rw [aj_wd_sum]; simpa using hW) d hcs'
  · exact va_runIN (Ts := []) (n := n) (ws := [Cond.code y bytes maxL none]) ⟨G.1, G.2.1, G.maxL, G.own, fun _ h => nomatch h⟩ hM ⟨⟨⟨rfl, rfl, hfr, hlo, G.words hw.1, List.mem_singleton_self _⟩, G.word hw.1, G.word hw.2.1, hw.2.2.1, hw.len, G.word hL⟩, hy, G.word hi⟩ hpre rfl (by rw [List.length_map]; exact hn) h1.1 (by rw [hst]; simp [aj_v, va_rf]) (by rw [aj_wd_sum]; simpa using hW) d hcs'
end
