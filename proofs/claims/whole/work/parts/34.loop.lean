/-! THE CLAIM OUT OF ONE WALK OF THE LAW'S BODY. Your part is whole_start (and what it stands on); all else here is the same for every law, but numbers. -/
def R_law : String := "AppendStoreLaw"
def lw_P (b : Addr) (xs : List Int32) (args : Array Value) (s : State) : Prop := args = #[.ref b] ∧ s.IntsAt b xs ∧ xs.length ≤ 3584 ∧ (Jvm.Cond.and given_1 narrow_1).before args s = true
def lw_Q (_ : Array Value) (s : State) (o : Outcome) (t : State) : Prop := o = .returned (some (.int 1)) ∧ Framed s o t [] 601024 7293034
def lw_Z (below : List Frame) (a : Array Value) (s : State) : State → Prop := fun t => ∃ o, t.status = .running ∧ Ended t below o ∧ lw_Q a s o t
/-- the law's own end, with 1 on the stack, nothing written that was there before, its room as the claim has it -/
theorem lw_ret {p : Program} {l : Launch} {e : Env} {s : State} {m : MethodId} {below : List Frame} {meth : Method} {c : Code} {b : Nat} (hx : p.tables.exec = Jvm.exec) (hb : c.code = code) (hr : meth.sig.returnType = ret) (hlocks : meth.locks = false) {pc : Nat} {H : Heap} {ls : Array Slot} (hdg : decode code pc = .ok (.ireturn, 1)) : W p l e room_1 s m #[Value.ref b] below meth c H [] 601024 7293034 (lw_Z below #[Value.ref b] s) (F0 m pc ls [.int 1]) := by
  intro T hT X
  obtain ⟨fs, hret, hrun, hended, hW, hframe⟩ := X.leave (v := some (.int 1)) (hlocks := hlocks) (fun h => by rw [hr] at h; cases h)
  have hmeth' : T.vm.method? m = some meth := X.method'
  refine ⟨T.setFrames fs, ?_, .returned (some (.int 1)), hrun, hended, rfl, ⟨_, rfl⟩, hW, hframe⟩
  jvm_step X.here [X.here.top, hx, hb, hdg, hmeth', hr, ret, narrow_b1]
  (try refine ⟨rfl, ?_⟩); (try refine ⟨rfl, ?_⟩)
  first | (intro acts; rw [hret _ acts rfl rfl rfl]) | rw [hret _ _ rfl rfl rfl]
  exact Steps.refl _
/-- what holds at the law's entry: the machine, the code, the tables' words (any of lw_tbl by 'hts w (by decide +kernel)'), the script of L ints xs at the cell b, what the Statement gives of the start (any of its parts by flat_of_before) -/
def lw_At (p : Program) (s : State) (m : MethodId) (meth : Method) (c : Code) (b L : Nat) (xs : Nat → Int32) : Prop :=
  p.tables.exec = Jvm.exec ∧ c.code = code ∧ meth.sig.returnType = ret ∧ c.maxLocals = 8 ∧ s.vm.findClass R_law = some m.cls ∧ (∀ w ∈ lw_tbl, w.before #[Value.ref b] s = true) ∧ va_X b L xs s s.heap ∧ b < s.heap.size ∧ meth.locks = false ∧ (Jvm.Cond.and given_1 narrow_1).before #[Value.ref b] s = true
theorem jl_ret {p : Program} {l : Launch} {e : Env} {s : State} {m : MethodId} {below : List Frame} {meth : Method} {c : Code} {b : Nat} {D : va_G} {dA : Nat → ClassId} {base : Nat} {k : Nat × Nat} {lv : List (Nat × aV)} {w : aw_W} (hx : p.tables.exec = Jvm.exec) (hb : c.code = code) (hr : meth.sig.returnType = ret) (hlocks : meth.locks = false) (hB : s.heap.size ≤ base) (hk : k.1 ≤ 601024 ∧ k.2 ≤ 7293034) :
    aj_J (p, l, e, room_1, s, m, #[Value.ref b], below, meth, c, lw_Z below #[Value.ref b] s, D, dA, base) 8 k 999 lv [aI 1] w := by
  intro ls H locs h1 h2 h3 h4 T hT X
  have X' : Stand p l e room_1 s m #[Value.ref b] below meth c T [] k.1 k.2 :=
    { X with same := X.same.weaken (fun y hy hlt => absurd (Nat.lt_of_lt_of_le hlt hB) (Nat.not_lt.mpr (h4.2.2 y hy))) (Nat.le_refl _) (Nat.le_refl _) }
  exact W.widen hk.1 hk.2 (lw_ret hx hb hr hlocks d_L_law_999) T hT X'
noncomputable def f_L_run (o m a : Option Nat) (n : Nat) (sc : Nat → Int32) : Nat → Nat → aw_W → Option aw_W
  | 0, _, w => some w
  | r + 1, j, w => (f_L_turn w o m a n sc (Int32.ofNat (7 * j))).bind fun w' => f_L_run o m a n sc r (j + 1) w'
theorem aj_n32 {k : Nat} (h : k < 2147483648) : (Int32.ofNat k).toInt = (k : Int) := Int32.toInt_ofNat_of_lt h
theorem aj_n7 {n : Nat} (h : n ≤ 3584) : (Int32.ofNat n - 7).toInt = (n : Int) - 7 := by
  rw [Int32.toInt_sub, aj_n32 (by omega), show (7 : Int32).toInt = 7 from by decide, Int.bmod_def]
  split <;> omega
theorem jl_loop {Γ : aj_G} {z n : Nat} {o m a : Option Nat} {sc : Nat → Int32} (G : aj_ok Γ y_L_law b_L_law 8 (some .boolean) rm_L_law) (S : aj_sc Γ z n sc) (hn : n ≤ 3584)
    (hE : ∀ (k : Nat × Nat) (lv : List (Nat × aV)) (w : aw_W), k.1 ≤ 601024 ∧ k.2 ≤ 7293034 → aj_J Γ 8 k 999 lv [aI 1] w) :
    ∀ (r j : Nat) (w w' : aw_W), r + j = n / 7 → f_L_run o m a n sc r j w = some w' → aj_J Γ 8 (278 + 4 * j, 7922 + 24 * j) 23 (aj_llv z o m a (Int32.ofNat (7 * j))) [] w := by
  intro r
  induction r with
  | zero =>
    intro j w w' hj hm
    refine j_iload G d_L_law_23 rfl ?_
    refine j_aload_n G d_L_law_25 rfl ?_
    refine j_sclen G S d_L_law_26 ?_
    refine j_bipush (v := 7) G d_L_law_27 (by decide) ?_
    refine j_isub G d_L_law_29 ?_
    refine j_icmp_gt (tgt := 998) G d_L_law_30 rfl (fun hc => ?_) (fun hc => ?_)
    · refine j_iconst (v := 1) G d_L_law_998 (by decide) ?_
      exact hE _ _ _ ⟨by dsimp only; omega, by dsimp only; omega⟩
    · exfalso
      refine hc ?_
      rw [Int32.lt_iff_toInt_lt, aj_n7 hn, aj_n32 (by omega)]
      omega
  | succ r ih =>
    intro j w w' hj hm
    unfold f_L_run at hm
    obtain ⟨w1, hw1, hm⟩ := Option.bind_eq_some_iff.mp hm
    refine j_iload G d_L_law_23 rfl ?_
    refine j_aload_n G d_L_law_25 rfl ?_
    refine j_sclen G S d_L_law_26 ?_
    refine j_bipush (v := 7) G d_L_law_27 (by decide) ?_
    refine j_isub G d_L_law_29 ?_
    refine j_icmp_gt (tgt := 998) G d_L_law_30 rfl (fun hc => ?_) (fun hc => ?_)
    · exfalso
      rw [Int32.lt_iff_toInt_lt, aj_n7 hn, aj_n32 (by omega)] at hc
      omega
    · refine jt_turn G S (by omega) (by omega) hw1 ?_
      refine j_iinc (v := Int32.ofNat (7 * j) + 7) G d_L_law_992 rfl rfl (by decide) ?_
      refine j_goto (tgt := 23) G d_L_law_995 rfl ?_
      have hi : Int32.ofNat (7 * j) + 7 = Int32.ofNat (7 * (j + 1)) := by
        rw [Nat.mul_add, Int32.ofNat_add]
        rfl
      rw [hi]
      refine j_lv (aj_llv z o m a (Int32.ofNat (7 * (j + 1)))) rfl ?_
      exact j_wide (278 + 4 * (j + 1), 7922 + 24 * (j + 1)) (by dsimp only; omega) (by dsimp only; omega) (ih (j + 1) w1 w' (by omega) hm)
/-- the law's walk, out of what holds at its entry and the two meanings -/
theorem jl_whole {p : Program} {l : Launch} {e : Env} {s : State} {m : MethodId} {below : List Frame} {meth : Method} {c : Code} {b L : Nat} {xs : Nat → Int32} {D : va_G} {dA : Nat → ClassId} {q : Option Nat × Option Nat × Option Nat × aw_W} {w' : aw_W} (hl : l.stackTraces = false) (hL : L ≤ 3584) (C0 : lw_At p s m meth c b L xs)
    (hK : aw_K D dA s.heap.size s) (h0 : f_L_start (some s.heap.size, fun _ => none) b = some q) (h1 : f_L_run q.1 q.2.1 q.2.2.1 L xs (L / 7) 0 q.2.2.2 = some w') (hR : aw_R D dA (some s.heap.size, fun _ => none) s.heap) (hI : aw_In s.heap.size (some s.heap.size, fun _ => none)) :
    W p l e room_1 s m #[Value.ref b] below meth c s.heap [] 0 0 (lw_Z below #[Value.ref b] s) (entryFrame m ([Value.ref b] : List Value).toArray 8) := by
  obtain ⟨c1, c2, c3, c4, c5, c6, c7, c8, c9, c10⟩ := C0
  have G : aj_ok (p, l, e, room_1, s, m, #[Value.ref b], below, meth, c, lw_Z below #[Value.ref b] s, D, dA, s.heap.size) y_L_law b_L_law 8 (some .boolean) rm_L_law :=
    ⟨c1, c2, c4, c5, hK, c9, c3, hl, rfl, fun h => absurd h (by decide)⟩
  have S : aj_sc (p, l, e, room_1, s, m, #[Value.ref b], below, meth, c, lw_Z below #[Value.ref b] s, D, dA, s.heap.size) b L xs := ⟨c7, c8, Nat.not_le.mpr c8⟩
  have K := jl_loop (o := q.1) (m := q.2.1) (a := q.2.2.1) G S hL (fun k lv w hk => jl_ret c1 c2 c3 c9 (Nat.le_refl _) hk) (L / 7) 0 q.2.2.2 w' (Nat.add_zero _) h1
  have K0 := jt_start G h0 K
  have hl' := lv_entry ([aRf (some b)].map aj_v) (n := 8) (by rw [aj_sl_wd]; exact Nat.le_of_ble_eq_true rfl)
  rw [aj_args_lv] at hl'
  have e1 : entryFrame m ([Value.ref b] : List Value).toArray 8 = F0 m 0 (lg_sl [Value.ref b] ++ List.replicate (8 - (lg_sl [Value.ref b]).length) Slot.unset).toArray [] := lg_entry_eq ..
  rw [e1]
  exact K0 _ s.heap [] hl' hR hI va_S.rf
