/-! ===== what stays the same while a method runs, and the judgement 'from here the method comes to its end' ===== -/
def aw_tys (dA : Nat → ClassId) : List (ClassId × FieldType) := [(dA 0, .byte), (dA 1, .int), (dA 2, .long), (dA 3, .boolean), (dA 4, .object "AppendStore$Rec"), (dA 5, .object "AppendStore$StoreFile")]
theorem aw_at {w : Cond} (h : aw_ok w = true) {s U : State} {A : Array Value} (hW : s.WarmedH U.vm) (hs : va_Nw w s) : w.before A U = true := by
  cases w <;> first
    | exact va_Nw.use rfl (va_Nw.warmF hW hs)
    | exact va_Nw.use rfl (va_Nw.warmM hW hs)
    | exact va_Nw.use rfl (va_Nw.warmC hW hs)
    | exact va_Nw.use rfl (va_Nw.warmD hW hs)
    | exact word_at hW (good_of_word h) hs
    | (next ty => cases ty <;> first | exact va_AO.use (va_AO.moved hW.alike (va_AO.of hs)) | exact word_at hW (good_of_word h) hs)
/-- a static field of a reference, its cell below the base: what it holds, where it lies -/
def aw_Z (n d : String) (base : Nat) (U : State) (H : Heap) : Prop := va_Zq "java/lang/Throwable" n d (fun q => base ≤ q) U H ∧
  ∃ (c : ClassId) (k : Class) (i : Nat) (f : Field) (a : Nat) (cell : Cell), U.vm.findClass "java/lang/Throwable" = some c ∧ U.fieldFound? "java/lang/Throwable" n d = some (c, k, i, f) ∧ f.isStatic = true ∧ k.statics = some a ∧ H[a]? = some cell ∧ cell.vm.isStatics = true ∧ cell.cls = c ∧ f.slot < cell.slots.size ∧ k.staticTypes[f.slot]? = some f.type ∧ ¬ base ≤ a
theorem aw_Z.moved {n d : String} {base : Nat} {u U : State} {H : Heap} (hvm : u.vm.Alike U.vm) (h : aw_Z n d base u H) : aw_Z n d base U H := by
  obtain ⟨h0, c, k, i, f, a, cell, h1, h2, h3, h4, h5, h6, h7, h8, h9, h10⟩ := h
  obtain ⟨k', hi', he⟩ := State.fieldFound?_setVm hvm h2
  exact ⟨h0.moved hvm, c, k', i, f, a, cell, by rw [hvm.findClass]; exact h1, hi', h3, by rw [he]; exact h4, h5, h6, h7, h8, by rw [he]; exact h9, h10⟩
theorem aw_Z.kept {n d : String} {base : Nat} {U : State} {H H1 : Heap} (h : aw_Z n d base U H) (hq : ∀ a : Nat, a < H.size → ¬ base ≤ a → H1[a]? = H[a]?) : aw_Z n d base U H1 := by
  obtain ⟨h0, c, k, i, f, a, cell, h1, h2, h3, h4, h5, h6, h7, h8, h9, h10⟩ := h
  exact ⟨h0.kept hq, c, k, i, f, a, cell, h1, h2, h3, h4, by rw [hq a (Array.getElem?_eq_some_iff.mp h5).1 h10]; exact h5, h6, h7, h8, h9, h10⟩
/-- the texts that are thrown -/
def aw_ss : List (String × Nat × String) := [("AppendStore", 204, "a number is outside its range"), ("AppendStore", 202, "the store is closed"), ("AppendStore", 219, "full"), ("AppendStore", 63, "the key has no value"), ("AppendStore", 76, "the record is broken"), ("AppendStore", 91, "there is no such key"), ("AppendStore", 148, "there is no sealed file"), ("AppendStore", 168, "there is no such file"), ("AppendStore", 210, "there is no such byte")]
/-- the classes of what is thrown -/
def aw_ex : List String := ["java/lang/IllegalArgumentException", "java/lang/IllegalStateException", "java/lang/UnsupportedOperationException", "java/util/NoSuchElementException"]
def aw_K (D : va_G) (dA : Nat → ClassId) (base : Nat) (U : State) : Prop :=
  va_K D aCl (aw_tys dA) U ∧ (∀ w ∈ aw_ws, va_Nw w U) ∧ (∀ q ∈ aw_ss, ∃ a, vk_R q.1 q.2.1 q.2.2 a U) ∧ aw_Z "UNASSIGNED_STACK" "[Ljava/lang/StackTraceElement;" base U U.heap ∧ aw_Z "SUPPRESSED_SENTINEL" "Ljava/util/List;" base U U.heap ∧ base ≤ U.heap.size ∧ ∀ C ∈ aw_ex, ∀ T ∈ aw_ex, C ≠ T → va_Nc C T U
theorem aw_K.warm {D : va_G} {dA : Nat → ClassId} {base : Nat} {s U : State} (h : aw_K D dA base s) (hW : s.WarmedH U.vm) (hz : s.heap.size ≤ U.heap.size) (hq : ∀ q : Nat, q < s.heap.size → ¬ base ≤ q → U.heap[q]? = s.heap[q]?) : aw_K D dA base U := by
  obtain ⟨k1, k2, k3, k4, k5, k6, k7⟩ := h
  refine ⟨va_K.moved hW.alike k1, fun w hw => aw_at (aw_ws_ok hw) hW (k2 w hw), fun q hq9 => ?_, aw_Z.moved hW.alike (k4.kept hq), aw_Z.moved hW.alike (k5.kept hq), Nat.le_trans k6 hz, fun C hC T hT hne => va_Nc.moved hW.alike (k7 C hC T hT hne)⟩
  obtain ⟨a, ha⟩ := k3 q hq9
  exact ⟨a, vk_R.warm hW ha⟩
/-- the machine, the launch, .. of a method that runs; its end; the classes' numbers; the base -/
abbrev aj_G : Type := Program × Launch × Env × Room × State × MethodId × Array Value × List Frame × Method × Code × (State → Prop) × va_G × (Nat → ClassId) × Nat
abbrev gp (Γ : aj_G) : Program := Γ.1
abbrev gl (Γ : aj_G) : Launch := Γ.2.1
abbrev ge (Γ : aj_G) : Env := Γ.2.2.1
abbrev gR (Γ : aj_G) : Room := Γ.2.2.2.1
abbrev gs (Γ : aj_G) : State := Γ.2.2.2.2.1
abbrev gm (Γ : aj_G) : MethodId := Γ.2.2.2.2.2.1
abbrev ga (Γ : aj_G) : Array Value := Γ.2.2.2.2.2.2.1
abbrev gb (Γ : aj_G) : List Frame := Γ.2.2.2.2.2.2.2.1
abbrev gme (Γ : aj_G) : Method := Γ.2.2.2.2.2.2.2.2.1
abbrev gc (Γ : aj_G) : Code := Γ.2.2.2.2.2.2.2.2.2.1
abbrev gQ (Γ : aj_G) : State → Prop := Γ.2.2.2.2.2.2.2.2.2.2.1
abbrev gD (Γ : aj_G) : va_G := Γ.2.2.2.2.2.2.2.2.2.2.2.1
abbrev gA (Γ : aj_G) : Nat → ClassId := Γ.2.2.2.2.2.2.2.2.2.2.2.2.1
abbrev gB (Γ : aj_G) : Nat := Γ.2.2.2.2.2.2.2.2.2.2.2.2.2
def aj_ok (Γ : aj_G) (y : MethodName) (cc : ByteArray) (nL : Nat) (ret : Option FieldType) (rm : Room) : Prop :=
  (gp Γ).tables.exec = Jvm.exec ∧ (gc Γ).code = cc ∧ (gc Γ).maxLocals = nL ∧ (gs Γ).vm.findClass y.cls = some (gm Γ).cls ∧ aw_K (gD Γ) (gA Γ) (gB Γ) (gs Γ) ∧ (gme Γ).locks = false ∧ (gme Γ).sig.returnType = ret ∧ (gl Γ).stackTraces = false ∧ gR Γ = rm ∧ (y.name = "<init>" → (gme Γ).name = "<init>")
section
variable {Γ : aj_G} {y : MethodName} {cc : ByteArray} {nL : Nat} {ret : Option FieldType} {rm : Room}
theorem aj_ok.maxL (G : aj_ok Γ y cc nL ret rm) : (gc Γ).maxLocals = nL := G.2.2.1
theorem aj_ok.own (G : aj_ok Γ y cc nL ret rm) : (gs Γ).vm.findClass y.cls = some (gm Γ).cls := G.2.2.2.1
theorem aj_ok.K (G : aj_ok Γ y cc nL ret rm) : aw_K (gD Γ) (gA Γ) (gB Γ) (gs Γ) := G.2.2.2.2.1
theorem aj_ok.locks (G : aj_ok Γ y cc nL ret rm) : (gme Γ).locks = false := G.2.2.2.2.2.1
theorem aj_ok.retT (G : aj_ok Γ y cc nL ret rm) : (gme Γ).sig.returnType = ret := G.2.2.2.2.2.2.1
theorem aj_ok.off (G : aj_ok Γ y cc nL ret rm) : (gl Γ).stackTraces = false := G.2.2.2.2.2.2.2.1
theorem aj_ok.room (G : aj_ok Γ y cc nL ret rm) : gR Γ = rm := G.2.2.2.2.2.2.2.2.1
theorem aj_ok.name (G : aj_ok Γ y cc nL ret rm) : y.name = "<init>" → (gme Γ).name = "<init>" := G.2.2.2.2.2.2.2.2.2
theorem aj_ok.word (G : aj_ok Γ y cc nL ret rm) {w : Cond} (hw : w ∈ aw_ws) {A : Array Value} : w.before A (gs Γ) = true := aw_at (aw_ws_ok hw) (State.WarmedH.refl (gs Γ)) (G.K.2.1 w hw)
end
/-- what a local or a place of the stack holds: a number, a long, a reference that may be null -/
abbrev aV : Type := Int32 ⊕ Int64 ⊕ Option Nat
abbrev aI (x : Int32) : aV := .inl x
abbrev aL (x : Int64) : aV := .inr (.inl x)
abbrev aRf (r : Option Nat) : aV := .inr (.inr r)
def aj_v (v : aV) : Value := match v with
  | .inl x => .int x
  | .inr (.inl x) => .long x
  | .inr (.inr r) => va_rf r
def aj_two (v : aV) : Bool := match v with
  | .inr (.inl _) => true
  | _ => false
def aj_sz (v : aV) : Nat := match v with
  | .inr (.inl _) => 2
  | _ => 1
theorem va_rf_cat (r : Option Nat) : (va_rf r).category = 1 := by cases r <;> rfl
theorem aj_v_cat (v : aV) : (aj_v v).category = aj_sz v := by
  rcases v with x | x | r
  · rfl
  · rfl
  · exact va_rf_cat r
theorem aj_v_two (v : aV) : ((aj_v v).category == 2) = aj_two v := by
  rcases v with x | x | r
  · rfl
  · rfl
  · show ((va_rf r).category == 2) = false
    rw [va_rf_cat]
    rfl
def aj_lv (lv : List (Nat × aV)) : List (Nat × Value) := lv.map fun q => (q.1, aj_v q.2)
def aj_wd (st : List aV) : Nat := match st with
  | [] => 0
  | v :: t => aj_sz v + aj_wd t
theorem aj_wd_sum (st : List aV) : ((st.map aj_v).map fun v => v.category).sum = aj_wd st := by
  induction st with
  | nil => rfl
  | cons v t ih =>
    simp only [List.map_cons, List.sum_cons, aj_wd, aj_v_cat]
    rw [ih]
def aj_J (Γ : aj_G) (nL : Nat) (k : Nat × Nat) (pc : Nat) (lv : List (Nat × aV)) (st : List aV) (w : aw_W) : Prop :=
  ∀ (ls : Array Slot) (H : Heap) (locs : List Loc), lv_has ls nL (aj_lv lv) → aw_R (gD Γ) (gA Γ) w H → aw_In (gB Γ) w → va_S (fun q => gB Γ ≤ q) (gs Γ).heap H locs →
    W (gp Γ) (gl Γ) (ge Γ) (gR Γ) (gs Γ) (gm Γ) (ga Γ) (gb Γ) (gme Γ) (gc Γ) H locs k.1 k.2 (gQ Γ) (F0 (gm Γ) pc ls (st.map aj_v))
/-! locals by their numbers -/
def aj_get (lv : List (Nat × aV)) (i : Nat) : Option aV := match lv with
  | [] => none
  | q :: t => if q.1 = i then some q.2 else aj_get t i
def aj_st1 (lv : List (Nat × aV)) (i : Nat) (v : aV) : List (Nat × aV) := (i, v) :: lv.filter (fun q => !(q.1 == i) && !(q.1 + 1 == i && aj_two q.2))
def aj_st2 (lv : List (Nat × aV)) (i : Nat) (v : aV) : List (Nat × aV) := (i, v) :: lv.filter (fun q => !(q.1 == i) && (!(q.1 == i + 1) && !(q.1 + 1 == i && aj_two q.2)))
theorem aj_st1_lv (lv : List (Nat × aV)) (i : Nat) (v : aV) : (i, aj_v v) :: (aj_lv lv).filter (fun q => !(q.1 == i) && !(q.1 + 1 == i && q.2.category == 2)) = aj_lv (aj_st1 lv i v) := by
  simp only [aj_lv, aj_st1, List.map_cons, List.filter_map, Function.comp_def, aj_v_two]
theorem aj_st2_lv (lv : List (Nat × aV)) (i : Nat) (v : aV) : (i, aj_v v) :: (aj_lv lv).filter (fun q => !(q.1 == i) && (!(q.1 == i + 1) && !(q.1 + 1 == i && q.2.category == 2))) = aj_lv (aj_st2 lv i v) := by
  simp only [aj_lv, aj_st2, List.map_cons, List.filter_map, Function.comp_def, aj_v_two]
theorem aj_get_at {lv : List (Nat × aV)} {i : Nat} {v : aV} (h : aj_get lv i = some v) : ∃ k : Nat, (aj_lv lv)[k]? = some (i, aj_v v) := by
  induction lv with
  | nil => cases h
  | cons q t ih =>
    unfold aj_get at h
    by_cases hq : q.1 = i
    · rw [if_pos hq] at h
      refine ⟨0, ?_⟩
      cases h
      rw [← hq]
      rfl
    · rw [if_neg hq] at h
      obtain ⟨k, hk⟩ := ih h
      exact ⟨k + 1, hk⟩
theorem aj_get_has {ls : Array Slot} {nL : Nat} {lv : List (Nat × aV)} (h : lv_has ls nL (aj_lv lv)) {i : Nat} {v : aV} (hv : aj_get lv i = some v) : ls[i]? = some (.val (aj_v v)) := by
  obtain ⟨k, hk⟩ := aj_get_at hv
  exact lv_at h k hk
/-- fewer locals are known -/
theorem j_lv {Γ : aj_G} {nL : Nat} {k : Nat × Nat} {pc : Nat} {lv : List (Nat × aV)} (lv' : List (Nat × aV)) {st : List aV} {w : aw_W} (hs : lv'.map (fun q => aj_get lv q.1) = lv'.map (fun q => some q.2)) (h : aj_J Γ nL k pc lv' st w) : aj_J Γ nL k pc lv st w := by
  intro ls H locs h1 h2 h3 h4
  refine h ls H locs ⟨h1.1, h1.2.1, fun q hq => ?_⟩ h2 h3 h4
  obtain ⟨q', hq', rfl⟩ := List.mem_map.mp hq
  have h5 := List.map_inj_left.mp hs q' hq'
  exact aj_get_has h1 h5
/-- more room is counted -/
theorem j_wide {Γ : aj_G} {nL : Nat} {k : Nat × Nat} {pc : Nat} {lv : List (Nat × aV)} {st : List aV} {w : aw_W} (k' : Nat × Nat) (h1 : k.1 ≤ k'.1) (h2 : k.2 ≤ k'.2) (h : aj_J Γ nL k' pc lv st w) : aj_J Γ nL k pc lv st w :=
  fun ls H locs q1 q2 q3 q4 => W.widen h1 h2 (h ls H locs q1 q2 q3 q4)
def aj_args (i : Nat) (vs : List aV) : List (Nat × aV) := match vs with
  | [] => []
  | v :: t => (i, v) :: aj_args (i + aj_sz v) t
theorem aj_args_lv (vs : List aV) : ∀ i, lv_args i (vs.map aj_v) = aj_lv (aj_args i vs) := by
  induction vs with
  | nil => intro i; rfl
  | cons v t ih =>
    intro i
    simp only [List.map_cons, lv_args, aj_args, aj_lv, aj_v_cat]
    rcases v with x | x | r
    · exact congrArg _ (ih (i + 1))
    · exact congrArg _ (ih (i + 2))
    · exact congrArg _ (ih (i + 1))
theorem aj_sl_wd (vs : List aV) : (lg_sl (vs.map aj_v)).length = aj_wd vs := by
  induction vs with
  | nil => rfl
  | cons v t ih =>
    have h : (lg_sl ((v :: t).map aj_v)).length = (if (aj_v v).category = 2 then [Slot.val (aj_v v), .second] else [.val (aj_v v)]).length + (lg_sl (t.map aj_v)).length := by
      simp only [lg_sl, List.map_cons, List.flatMap_cons, List.length_append]
    rw [h, ih, aj_v_cat]
    rcases v with x | x | r <;> rfl
def aj_ushr (x y : Int32) : Int32 := (x.toUInt32 >>> (y.toUInt32 &&& Int32.toUInt32 31)).toInt32
def aj_lushr (x : Int64) (y : Int32) : Int64 := (x.toUInt64 >>> (y.toInt64.toUInt64 &&& Int64.toUInt64 63)).toInt64
def aj_lshl (x : Int64) (y : Int32) : Int64 := x <<< (y.toInt64 &&& 63)
def aj_lshr (x : Int64) (y : Int32) : Int64 := x >>> (y.toInt64 &&& 63)
