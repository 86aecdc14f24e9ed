/-! more rules -/
def aw_le (i : Int32) (n : Nat) : Option Unit := if i.toNatClampNeg ≤ n then some () else none
theorem aw_le_some {i : Int32} {n : Nat} {u : Unit} (h : aw_le i n = some u) : i.toNatClampNeg ≤ n := by
  unfold aw_le at h
  by_cases hc : i.toNatClampNeg ≤ n
  · exact hc
  · rw [if_neg hc] at h; cases h
def aw_succ (i : Int32) (n : Nat) : Option Unit := if (i + 1).toNatClampNeg = i.toNatClampNeg + 1 ∧ i.toNatClampNeg + 1 ≤ n then some () else none
theorem aw_succ_some {i : Int32} {n : Nat} {u : Unit} (h : aw_succ i n = some u) : (i + 1).toNatClampNeg = i.toNatClampNeg + 1 ∧ i.toNatClampNeg + 1 ≤ n := by
  unfold aw_succ at h
  by_cases hc : (i + 1).toNatClampNeg = i.toNatClampNeg + 1 ∧ i.toNatClampNeg + 1 ≤ n
  · exact hc
  · rw [if_neg hc] at h; cases h
def aw_cap (i : Int32) (n : Nat) : Option Nat := if i < 0 then none else if i.toNatClampNeg ≤ n then some i.toNatClampNeg else none
theorem aw_cap_some {i : Int32} {n N : Nat} (h : aw_cap i n = some N) : ¬ i < 0 ∧ i.toNatClampNeg = N ∧ N ≤ n := by
  unfold aw_cap at h
  by_cases h1 : i < 0
  · rw [if_pos h1] at h; cases h
  · rw [if_neg h1] at h
    by_cases hc : i.toNatClampNeg ≤ n
    · rw [if_pos hc] at h
      cases h
      exact ⟨h1, rfl, hc⟩
    · rw [if_neg hc] at h; cases h
theorem j_ldiv {Γ : aj_G} {ym : MethodName} {cc : ByteArray} {nL : Nat} {ret : Option FieldType} {rm : Room} {k : Nat × Nat} {pc : Nat} {lv : List (Nat × aV)} {st : List aV} {w : aw_W} {x y : Int64} (G : aj_ok Γ ym cc nL ret rm) (d : decode cc pc = .ok (.ldiv, 1)) (hne : ¬ y = 0) (h : aj_J Γ nL k (pc + 1) lv (aL (x / y) :: st) w) : aj_J Γ nL k pc lv (aL y :: aL x :: st) w := fun ls H locs h1 h2 h3 h4 => lv_ldiv G.1 G.2.1 d hne (h ls H locs h1 h2 h3 h4)
theorem j_lrem {Γ : aj_G} {ym : MethodName} {cc : ByteArray} {nL : Nat} {ret : Option FieldType} {rm : Room} {k : Nat × Nat} {pc : Nat} {lv : List (Nat × aV)} {st : List aV} {w : aw_W} {x y : Int64} (G : aj_ok Γ ym cc nL ret rm) (d : decode cc pc = .ok (.lrem, 1)) (hne : ¬ y = 0) (h : aj_J Γ nL k (pc + 1) lv (aL (x - x / y * y) :: st) w) : aj_J Γ nL k pc lv (aL y :: aL x :: st) w := fun ls H locs h1 h2 h3 h4 => lv_lrem G.1 G.2.1 d hne (h ls H locs h1 h2 h3 h4)
theorem j_objInitR {Γ : aj_G} {ym : MethodName} {cc : ByteArray} {nL : Nat} {ret : Option FieldType} {rm : Room} {k : Nat × Nat} {pc index : Nat} {lv : List (Nat × aV)} {st : List aV} {w : aw_W} {r : Option Nat} {a : Nat} (G : aj_ok Γ ym cc nL ret rm) (d : decode cc pc = .ok (.invokespecial index, 3)) (hl : Cond.methodLink ym.cls index objectInit ∈ aw_ws) (hi : Cond.instanceMethod objectInit ∈ aw_ws) (hc : Cond.code objectInit ⟨#[0xb1]⟩ 1 none ∈ aw_ws) (hf : 1 ≤ rm.frames ∧ aj_wd st + 12 ≤ rm.locals) (hr : r = some a) (h : aj_J Γ nL k (pc + 3) lv st w) : aj_J Γ nL k pc lv (aRf r :: st) w := by
  subst hr
  exact j_objInit G d hl hi hc hf h
theorem aw_nR (C : String) (r : Option Nat) : narrow (.object C) (aj_v (aRf r)) = aj_v (aRf r) := by cases r <;> rfl
theorem aw_fR (C : String) (r : Option Nat) : fits (.object C) (aj_v (aRf r)) = true := by cases r <;> rfl
theorem aw_nA (t : FieldType) (r : Option Nat) : narrow (.array t) (aj_v (aRf r)) = aj_v (aRf r) := by cases r <;> rfl
theorem aw_fA (t : FieldType) (r : Option Nat) : fits (.array t) (aj_v (aRf r)) = true := by cases r <;> rfl
/-- a number that is a boolean -/
def aw_zz (x : Int32) : Option Unit := if narrow .boolean (.int x) = .int x then some () else none
theorem aw_zz_some {x : Int32} {u : Unit} (h : aw_zz x = some u) : narrow .boolean (.int x) = .int x := by
  unfold aw_zz at h
  by_cases hc : narrow .boolean (.int x) = .int x
  · exact hc
  · rw [if_neg hc] at h; cases h
theorem wd_1_1 : (Jvm.Cond.initialized "AppendStore") ∈ aw_ws := aw_t1 (List.mem_of_getElem? (i := 1) (by decide +kernel)) rfl
theorem wd_1_2 : (Jvm.Cond.initialized "AppendStore$Shelf") ∈ aw_ws := aw_t1 (List.mem_of_getElem? (i := 2) (by decide +kernel)) rfl
theorem wd_1_3 : (Jvm.Cond.initialized "AppendStore$StoreFile") ∈ aw_ws := aw_t1 (List.mem_of_getElem? (i := 3) (by decide +kernel)) rfl
theorem wd_1_4 : (Jvm.Cond.initialized "AppendStore$Octets") ∈ aw_ws := aw_t1 (List.mem_of_getElem? (i := 4) (by decide +kernel)) rfl
theorem wd_1_5 : (Jvm.Cond.initialized "AppendStore$Rec") ∈ aw_ws := aw_t1 (List.mem_of_getElem? (i := 5) (by decide +kernel)) rfl
theorem wd_1_6 : (Jvm.Cond.initialized "AppendStore$Directory") ∈ aw_ws := aw_t1 (List.mem_of_getElem? (i := 6) (by decide +kernel)) rfl
theorem wd_1_7 : (Jvm.Cond.initialized "AppendStore$Merger") ∈ aw_ws := aw_t1 (List.mem_of_getElem? (i := 7) (by decide +kernel)) rfl
theorem wd_1_8 : (Jvm.Cond.initialized "AppendStoreModel") ∈ aw_ws := aw_t1 (List.mem_of_getElem? (i := 8) (by decide +kernel)) rfl
theorem wd_1_12 : (Jvm.Cond.initialized "java/lang/IllegalArgumentException") ∈ aw_ws := aw_t1 (List.mem_of_getElem? (i := 12) (by decide +kernel)) rfl
theorem wd_1_13 : (Jvm.Cond.initialized "java/lang/IllegalStateException") ∈ aw_ws := aw_t1 (List.mem_of_getElem? (i := 13) (by decide +kernel)) rfl
theorem wd_1_14 : (Jvm.Cond.initialized "AppendStore$Key") ∈ aw_ws := aw_t1 (List.mem_of_getElem? (i := 14) (by decide +kernel)) rfl
theorem wd_1_15 : (Jvm.Cond.initialized "AppendStore$Layout") ∈ aw_ws := aw_t1 (List.mem_of_getElem? (i := 15) (by decide +kernel)) rfl
theorem wd_1_16 : (Jvm.Cond.initialized "java/lang/UnsupportedOperationException") ∈ aw_ws := aw_t1 (List.mem_of_getElem? (i := 16) (by decide +kernel)) rfl
theorem wd_1_17 : (Jvm.Cond.initialized "java/util/NoSuchElementException") ∈ aw_ws := aw_t1 (List.mem_of_getElem? (i := 17) (by decide +kernel)) rfl
theorem wd_1_18 : (Jvm.Cond.classLink "AppendStoreLaw" (8 : Nat) "AppendStore") ∈ aw_ws := aw_t1 (List.mem_of_getElem? (i := 18) (by decide +kernel)) rfl
theorem wd_1_19 : (Jvm.Cond.instantiable "AppendStore" (5 : Nat)) ∈ aw_ws := aw_t1 (List.mem_of_getElem? (i := 19) (by decide +kernel)) rfl
theorem wd_1_20 : (Jvm.Cond.methodLink "AppendStoreLaw" (60 : Nat) ({ cls := "AppendStore", name := "<init>", desc := "()V" } : Jvm.MethodName)) ∈ aw_ws := aw_t1 (List.mem_of_getElem? (i := 20) (by decide +kernel)) rfl
theorem wd_1_21 : (Jvm.Cond.instanceMethod ({ cls := "AppendStore", name := "<init>", desc := "()V" } : Jvm.MethodName)) ∈ aw_ws := aw_t1 (List.mem_of_getElem? (i := 21) (by decide +kernel)) rfl
theorem wd_1_22 : (Jvm.Cond.code ({ cls := "AppendStore", name := "<init>", desc := "()V" } : Jvm.MethodName) prog_1_method_1_code (1 : Nat) (Option.none : Option Jvm.ClassFile.FieldType)) ∈ aw_ws := aw_t1 (List.mem_of_getElem? (i := 22) (by decide +kernel)) rfl
theorem wd_1_23 : (Jvm.Cond.methodLink "AppendStore" (1 : Nat) ({ cls := "java/lang/Object", name := "<init>", desc := "()V" } : Jvm.MethodName)) ∈ aw_ws := aw_t1 (List.mem_of_getElem? (i := 23) (by decide +kernel)) rfl
theorem wd_1_24 : (Jvm.Cond.instanceMethod ({ cls := "java/lang/Object", name := "<init>", desc := "()V" } : Jvm.MethodName)) ∈ aw_ws := aw_t1 (List.mem_of_getElem? (i := 24) (by decide +kernel)) rfl
theorem wd_1_25 : (Jvm.Cond.code ({ cls := "java/lang/Object", name := "<init>", desc := "()V" } : Jvm.MethodName) object_method_1_code (1 : Nat) (Option.none : Option Jvm.ClassFile.FieldType)) ∈ aw_ws := aw_t1 (List.mem_of_getElem? (i := 25) (by decide +kernel)) rfl
theorem wd_1_26 : (Jvm.Cond.classLink "AppendStore" (7 : Nat) "AppendStore$Shelf") ∈ aw_ws := aw_t1 (List.mem_of_getElem? (i := 26) (by decide +kernel)) rfl
theorem wd_1_27 : (Jvm.Cond.instantiable "AppendStore$Shelf" (4 : Nat)) ∈ aw_ws := aw_t1 (List.mem_of_getElem? (i := 27) (by decide +kernel)) rfl
theorem wd_1_28 : (Jvm.Cond.methodLink "AppendStore" (9 : Nat) ({ cls := "AppendStore$Shelf", name := "<init>", desc := "()V" } : Jvm.MethodName)) ∈ aw_ws := aw_t1 (List.mem_of_getElem? (i := 28) (by decide +kernel)) rfl
theorem wd_1_29 : (Jvm.Cond.instanceMethod ({ cls := "AppendStore$Shelf", name := "<init>", desc := "()V" } : Jvm.MethodName)) ∈ aw_ws := aw_t1 (List.mem_of_getElem? (i := 29) (by decide +kernel)) rfl
theorem wd_1_30 : (Jvm.Cond.code ({ cls := "AppendStore$Shelf", name := "<init>", desc := "()V" } : Jvm.MethodName) prog_8_method_1_code (2 : Nat) (Option.none : Option Jvm.ClassFile.FieldType)) ∈ aw_ws := aw_t1 (List.mem_of_getElem? (i := 30) (by decide +kernel)) rfl
theorem wd_1_31 : (Jvm.Cond.methodLink "AppendStore$Shelf" (3 : Nat) ({ cls := "java/lang/Object", name := "<init>", desc := "()V" } : Jvm.MethodName)) ∈ aw_ws := aw_t1 (List.mem_of_getElem? (i := 31) (by decide +kernel)) rfl
theorem wd_1_32 : (Jvm.Cond.classLink "AppendStore$Shelf" (9 : Nat) "AppendStore$StoreFile") ∈ aw_ws := aw_t1 (List.mem_of_getElem? (i := 32) (by decide +kernel)) rfl
theorem wd_1_33 : (Jvm.Cond.arrayOver (Jvm.ClassFile.FieldType.object "AppendStore$StoreFile")) ∈ aw_ws := aw_t1 (List.mem_of_getElem? (i := 33) (by decide +kernel)) rfl
theorem wd_1_34 : (Jvm.Cond.instantiable "AppendStore$StoreFile" (6 : Nat)) ∈ aw_ws := aw_t1 (List.mem_of_getElem? (i := 34) (by decide +kernel)) rfl
theorem wd_1_35 : (Jvm.Cond.methodLink "AppendStore$Shelf" (17 : Nat) ({ cls := "AppendStore$StoreFile", name := "<init>", desc := "()V" } : Jvm.MethodName)) ∈ aw_ws := aw_t1 (List.mem_of_getElem? (i := 35) (by decide +kernel)) rfl
theorem wd_1_36 : (Jvm.Cond.instanceMethod ({ cls := "AppendStore$StoreFile", name := "<init>", desc := "()V" } : Jvm.MethodName)) ∈ aw_ws := aw_t1 (List.mem_of_getElem? (i := 36) (by decide +kernel)) rfl
theorem wd_1_37 : (Jvm.Cond.code ({ cls := "AppendStore$StoreFile", name := "<init>", desc := "()V" } : Jvm.MethodName) prog_9_method_1_code (2 : Nat) (Option.none : Option Jvm.ClassFile.FieldType)) ∈ aw_ws := aw_t1 (List.mem_of_getElem? (i := 37) (by decide +kernel)) rfl
theorem wd_1_38 : (Jvm.Cond.methodLink "AppendStore$StoreFile" (1 : Nat) ({ cls := "java/lang/Object", name := "<init>", desc := "()V" } : Jvm.MethodName)) ∈ aw_ws := aw_t1 (List.mem_of_getElem? (i := 38) (by decide +kernel)) rfl
theorem wd_1_39 : (Jvm.Cond.classLink "AppendStore$StoreFile" (7 : Nat) "AppendStore$Octets") ∈ aw_ws := aw_t1 (List.mem_of_getElem? (i := 39) (by decide +kernel)) rfl
theorem wd_1_40 : (Jvm.Cond.instantiable "AppendStore$Octets" (2 : Nat)) ∈ aw_ws := aw_t1 (List.mem_of_getElem? (i := 40) (by decide +kernel)) rfl
theorem wd_1_41 : (Jvm.Cond.methodLink "AppendStore$StoreFile" (11 : Nat) ({ cls := "AppendStore$Octets", name := "<init>", desc := "(I)V" } : Jvm.MethodName)) ∈ aw_ws := aw_t1 (List.mem_of_getElem? (i := 41) (by decide +kernel)) rfl
theorem wd_1_42 : (Jvm.Cond.instanceMethod ({ cls := "AppendStore$Octets", name := "<init>", desc := "(I)V" } : Jvm.MethodName)) ∈ aw_ws := aw_t1 (List.mem_of_getElem? (i := 42) (by decide +kernel)) rfl
theorem wd_1_43 : (Jvm.Cond.code ({ cls := "AppendStore$Octets", name := "<init>", desc := "(I)V" } : Jvm.MethodName) prog_6_method_1_code (2 : Nat) (Option.none : Option Jvm.ClassFile.FieldType)) ∈ aw_ws := aw_t1 (List.mem_of_getElem? (i := 43) (by decide +kernel)) rfl
theorem wd_1_44 : (Jvm.Cond.methodLink "AppendStore$Octets" (1 : Nat) ({ cls := "java/lang/Object", name := "<init>", desc := "()V" } : Jvm.MethodName)) ∈ aw_ws := aw_t1 (List.mem_of_getElem? (i := 44) (by decide +kernel)) rfl
theorem wd_1_45 : (Jvm.Cond.fieldLink "AppendStore$Octets" (7 : Nat) "AppendStore$Octets" "cells" "[B") ∈ aw_ws := aw_t1 (List.mem_of_getElem? (i := 45) (by decide +kernel)) rfl
theorem wd_1_46 : (Jvm.Cond.fieldLink "AppendStore$Octets" (13 : Nat) "AppendStore$Octets" "size" "I") ∈ aw_ws := aw_t1 (List.mem_of_getElem? (i := 46) (by decide +kernel)) rfl
theorem wd_1_47 : (Jvm.Cond.laysFinal "AppendStore$Octets" "AppendStore$Octets" "cells" "[B") ∈ aw_ws := aw_t1 (List.mem_of_getElem? (i := 47) (by decide +kernel)) rfl
theorem wd_1_49 : (Jvm.Cond.lays "AppendStore$Octets" "AppendStore$Octets" "size" "I") ∈ aw_ws := aw_t1 (List.mem_of_getElem? (i := 49) (by decide +kernel)) rfl
theorem wd_1_52 : (Jvm.Cond.arrayClass Jvm.ClassFile.FieldType.byte) ∈ aw_ws := aw_t1 (List.mem_of_getElem? (i := 52) (by decide +kernel)) rfl
theorem wd_1_53 : (Jvm.Cond.classLink "AppendStore$StoreFile" (23 : Nat) "AppendStore$Rec") ∈ aw_ws := aw_t1 (List.mem_of_getElem? (i := 53) (by decide +kernel)) rfl
theorem wd_1_54 : (Jvm.Cond.arrayOver (Jvm.ClassFile.FieldType.object "AppendStore$Rec")) ∈ aw_ws := aw_t1 (List.mem_of_getElem? (i := 54) (by decide +kernel)) rfl
theorem wd_1_55 : (Jvm.Cond.instantiable "AppendStore$Rec" (5 : Nat)) ∈ aw_ws := aw_t1 (List.mem_of_getElem? (i := 55) (by decide +kernel)) rfl
theorem wd_1_56 : (Jvm.Cond.methodLinkNest "AppendStore$StoreFile" (29 : Nat) ({ cls := "AppendStore$Rec", name := "<init>", desc := "()V" } : Jvm.MethodName) "AppendStore") ∈ aw_ws := aw_t1 (List.mem_of_getElem? (i := 56) (by decide +kernel)) rfl
theorem wd_1_57 : (Jvm.Cond.instanceMethod ({ cls := "AppendStore$Rec", name := "<init>", desc := "()V" } : Jvm.MethodName)) ∈ aw_ws := aw_t1 (List.mem_of_getElem? (i := 57) (by decide +kernel)) rfl
theorem wd_1_58 : (Jvm.Cond.code ({ cls := "AppendStore$Rec", name := "<init>", desc := "()V" } : Jvm.MethodName) prog_7_method_1_code (1 : Nat) (Option.none : Option Jvm.ClassFile.FieldType)) ∈ aw_ws := aw_t1 (List.mem_of_getElem? (i := 58) (by decide +kernel)) rfl
theorem wd_1_59 : (Jvm.Cond.methodLink "AppendStore$Rec" (1 : Nat) ({ cls := "java/lang/Object", name := "<init>", desc := "()V" } : Jvm.MethodName)) ∈ aw_ws := aw_t1 (List.mem_of_getElem? (i := 59) (by decide +kernel)) rfl
theorem wd_1_60 : (Jvm.Cond.fieldLink "AppendStore$Rec" (33 : Nat) "AppendStore$Rec" "home" "LAppendStore$StoreFile;") ∈ aw_ws := aw_t1 (List.mem_of_getElem? (i := 60) (by decide +kernel)) rfl
theorem wd_1_61 : (Jvm.Cond.fieldLink "AppendStore$StoreFile" (142 : Nat) "AppendStore$Rec" "home" "LAppendStore$StoreFile;") ∈ aw_ws := aw_t1 (List.mem_of_getElem? (i := 61) (by decide +kernel)) rfl
theorem wd_1_62 : (Jvm.Cond.fieldLink "AppendStore$Rec" (42 : Nat) "AppendStore$Rec" "place" "I") ∈ aw_ws := aw_t1 (List.mem_of_getElem? (i := 62) (by decide +kernel)) rfl
theorem wd_1_63 : (Jvm.Cond.fieldLink "AppendStore" (107 : Nat) "AppendStore$Rec" "place" "I") ∈ aw_ws := aw_t1 (List.mem_of_getElem? (i := 63) (by decide +kernel)) rfl
theorem wd_1_64 : (Jvm.Cond.fieldLink "AppendStore$StoreFile" (101 : Nat) "AppendStore$Rec" "place" "I") ∈ aw_ws := aw_t1 (List.mem_of_getElem? (i := 64) (by decide +kernel)) rfl
theorem wd_1_65 : (Jvm.Cond.fieldLink "AppendStore$Rec" (15 : Nat) "AppendStore$Rec" "rank" "J") ∈ aw_ws := aw_t1 (List.mem_of_getElem? (i := 65) (by decide +kernel)) rfl
theorem wd_1_66 : (Jvm.Cond.fieldLink "AppendStore$Directory" (31 : Nat) "AppendStore$Rec" "rank" "J") ∈ aw_ws := aw_t1 (List.mem_of_getElem? (i := 66) (by decide +kernel)) rfl
theorem wd_1_67 : (Jvm.Cond.fieldLink "AppendStore" (93 : Nat) "AppendStore$Rec" "rank" "J") ∈ aw_ws := aw_t1 (List.mem_of_getElem? (i := 67) (by decide +kernel)) rfl
theorem wd_1_68 : (Jvm.Cond.fieldLink "AppendStore$StoreFile" (92 : Nat) "AppendStore$Rec" "rank" "J") ∈ aw_ws := aw_t1 (List.mem_of_getElem? (i := 68) (by decide +kernel)) rfl
theorem wd_1_69 : (Jvm.Cond.fieldLink "AppendStore$Rec" (7 : Nat) "AppendStore$Rec" "valueSize" "I") ∈ aw_ws := aw_t1 (List.mem_of_getElem? (i := 69) (by decide +kernel)) rfl
theorem wd_1_70 : (Jvm.Cond.fieldLink "AppendStore$StoreFile" (96 : Nat) "AppendStore$Rec" "valueSize" "I") ∈ aw_ws := aw_t1 (List.mem_of_getElem? (i := 70) (by decide +kernel)) rfl
theorem wd_1_71 : (Jvm.Cond.fieldLink "AppendStore$Merger" (88 : Nat) "AppendStore$Rec" "source" "LAppendStore$Rec;") ∈ aw_ws := aw_t1 (List.mem_of_getElem? (i := 71) (by decide +kernel)) rfl
theorem wd_1_72 : (Jvm.Cond.fieldLink "AppendStore$StoreFile" (146 : Nat) "AppendStore$Rec" "source" "LAppendStore$Rec;") ∈ aw_ws := aw_t1 (List.mem_of_getElem? (i := 72) (by decide +kernel)) rfl
theorem wd_1_73 : (Jvm.Cond.lays "AppendStore$Rec" "AppendStore$Rec" "home" "LAppendStore$StoreFile;") ∈ aw_ws := aw_t1 (List.mem_of_getElem? (i := 73) (by decide +kernel)) rfl
theorem wd_1_75 : (Jvm.Cond.lays "AppendStore$Rec" "AppendStore$Rec" "place" "I") ∈ aw_ws := aw_t1 (List.mem_of_getElem? (i := 75) (by decide +kernel)) rfl
theorem wd_1_77 : (Jvm.Cond.lays "AppendStore$Rec" "AppendStore$Rec" "rank" "J") ∈ aw_ws := aw_t1 (List.mem_of_getElem? (i := 77) (by decide +kernel)) rfl
theorem wd_1_79 : (Jvm.Cond.lays "AppendStore$Rec" "AppendStore$Rec" "valueSize" "I") ∈ aw_ws := aw_t1 (List.mem_of_getElem? (i := 79) (by decide +kernel)) rfl
theorem wd_1_81 : (Jvm.Cond.lays "AppendStore$Rec" "AppendStore$Rec" "source" "LAppendStore$Rec;") ∈ aw_ws := aw_t1 (List.mem_of_getElem? (i := 81) (by decide +kernel)) rfl
theorem wd_1_84 : (Jvm.Cond.fieldLink "AppendStore$StoreFile" (14 : Nat) "AppendStore$StoreFile" "bytes" "LAppendStore$Octets;") ∈ aw_ws := aw_t1 (List.mem_of_getElem? (i := 84) (by decide +kernel)) rfl
theorem wd_1_85 : (Jvm.Cond.fieldLink "AppendStore$StoreFile" (20 : Nat) "AppendStore$StoreFile" "hint" "LAppendStore$Octets;") ∈ aw_ws := aw_t1 (List.mem_of_getElem? (i := 85) (by decide +kernel)) rfl
theorem wd_1_86 : (Jvm.Cond.fieldLink "AppendStore$StoreFile" (25 : Nat) "AppendStore$StoreFile" "records" "[LAppendStore$Rec;") ∈ aw_ws := aw_t1 (List.mem_of_getElem? (i := 86) (by decide +kernel)) rfl
theorem wd_1_87 : (Jvm.Cond.fieldLink "AppendStore$StoreFile" (33 : Nat) "AppendStore$StoreFile" "recordCount" "I") ∈ aw_ws := aw_t1 (List.mem_of_getElem? (i := 87) (by decide +kernel)) rfl
theorem wd_1_88 : (Jvm.Cond.fieldLink "AppendStore$StoreFile" (37 : Nat) "AppendStore$StoreFile" "number" "I") ∈ aw_ws := aw_t1 (List.mem_of_getElem? (i := 88) (by decide +kernel)) rfl
theorem wd_1_89 : (Jvm.Cond.fieldLink "AppendStore$StoreFile" (40 : Nat) "AppendStore$StoreFile" "synced" "I") ∈ aw_ws := aw_t1 (List.mem_of_getElem? (i := 89) (by decide +kernel)) rfl
theorem wd_1_90 : (Jvm.Cond.laysFinal "AppendStore$StoreFile" "AppendStore$StoreFile" "bytes" "LAppendStore$Octets;") ∈ aw_ws := aw_t1 (List.mem_of_getElem? (i := 90) (by decide +kernel)) rfl
theorem wd_1_92 : (Jvm.Cond.laysFinal "AppendStore$StoreFile" "AppendStore$StoreFile" "hint" "LAppendStore$Octets;") ∈ aw_ws := aw_t1 (List.mem_of_getElem? (i := 92) (by decide +kernel)) rfl
theorem wd_1_94 : (Jvm.Cond.laysFinal "AppendStore$StoreFile" "AppendStore$StoreFile" "records" "[LAppendStore$Rec;") ∈ aw_ws := aw_t1 (List.mem_of_getElem? (i := 94) (by decide +kernel)) rfl
theorem wd_1_96 : (Jvm.Cond.lays "AppendStore$StoreFile" "AppendStore$StoreFile" "recordCount" "I") ∈ aw_ws := aw_t1 (List.mem_of_getElem? (i := 96) (by decide +kernel)) rfl
theorem wd_1_98 : (Jvm.Cond.lays "AppendStore$StoreFile" "AppendStore$StoreFile" "number" "I") ∈ aw_ws := aw_t1 (List.mem_of_getElem? (i := 98) (by decide +kernel)) rfl
theorem wd_1_100 : (Jvm.Cond.lays "AppendStore$StoreFile" "AppendStore$StoreFile" "synced" "I") ∈ aw_ws := aw_t1 (List.mem_of_getElem? (i := 100) (by decide +kernel)) rfl
theorem wd_1_103 : (Jvm.Cond.fieldLink "AppendStore$Shelf" (11 : Nat) "AppendStore$Shelf" "slots" "[LAppendStore$StoreFile;") ∈ aw_ws := aw_t1 (List.mem_of_getElem? (i := 103) (by decide +kernel)) rfl
theorem wd_1_104 : (Jvm.Cond.fieldLink "AppendStore$Shelf" (18 : Nat) "AppendStore$Shelf" "count" "I") ∈ aw_ws := aw_t1 (List.mem_of_getElem? (i := 104) (by decide +kernel)) rfl
theorem wd_1_105 : (Jvm.Cond.fieldLink "AppendStore$Shelf" (22 : Nat) "AppendStore$Shelf" "active" "LAppendStore$StoreFile;") ∈ aw_ws := aw_t1 (List.mem_of_getElem? (i := 105) (by decide +kernel)) rfl
theorem wd_1_106 : (Jvm.Cond.fieldLink "AppendStore$Shelf" (26 : Nat) "AppendStore$Shelf" "lastNumber" "I") ∈ aw_ws := aw_t1 (List.mem_of_getElem? (i := 106) (by decide +kernel)) rfl
theorem wd_1_107 : (Jvm.Cond.laysFinal "AppendStore$Shelf" "AppendStore$Shelf" "slots" "[LAppendStore$StoreFile;") ∈ aw_ws := aw_t1 (List.mem_of_getElem? (i := 107) (by decide +kernel)) rfl
theorem wd_1_109 : (Jvm.Cond.lays "AppendStore$Shelf" "AppendStore$Shelf" "count" "I") ∈ aw_ws := aw_t1 (List.mem_of_getElem? (i := 109) (by decide +kernel)) rfl
theorem wd_1_111 : (Jvm.Cond.lays "AppendStore$Shelf" "AppendStore$Shelf" "active" "LAppendStore$StoreFile;") ∈ aw_ws := aw_t1 (List.mem_of_getElem? (i := 111) (by decide +kernel)) rfl
theorem wd_1_113 : (Jvm.Cond.lays "AppendStore$Shelf" "AppendStore$Shelf" "lastNumber" "I") ∈ aw_ws := aw_t1 (List.mem_of_getElem? (i := 113) (by decide +kernel)) rfl
theorem wd_1_116 : (Jvm.Cond.classLink "AppendStore" (16 : Nat) "AppendStore$Directory") ∈ aw_ws := aw_t1 (List.mem_of_getElem? (i := 116) (by decide +kernel)) rfl
theorem wd_1_117 : (Jvm.Cond.instantiable "AppendStore$Directory" (2 : Nat)) ∈ aw_ws := aw_t1 (List.mem_of_getElem? (i := 117) (by decide +kernel)) rfl
theorem wd_1_118 : (Jvm.Cond.methodLink "AppendStore" (18 : Nat) ({ cls := "AppendStore$Directory", name := "<init>", desc := "()V" } : Jvm.MethodName)) ∈ aw_ws := aw_t1 (List.mem_of_getElem? (i := 118) (by decide +kernel)) rfl
theorem wd_1_119 : (Jvm.Cond.instanceMethod ({ cls := "AppendStore$Directory", name := "<init>", desc := "()V" } : Jvm.MethodName)) ∈ aw_ws := aw_t1 (List.mem_of_getElem? (i := 119) (by decide +kernel)) rfl
theorem wd_1_120 : (Jvm.Cond.code ({ cls := "AppendStore$Directory", name := "<init>", desc := "()V" } : Jvm.MethodName) prog_2_method_1_code (1 : Nat) (Option.none : Option Jvm.ClassFile.FieldType)) ∈ aw_ws := aw_t1 (List.mem_of_getElem? (i := 120) (by decide +kernel)) rfl
theorem wd_1_121 : (Jvm.Cond.methodLink "AppendStore$Directory" (3 : Nat) ({ cls := "java/lang/Object", name := "<init>", desc := "()V" } : Jvm.MethodName)) ∈ aw_ws := aw_t1 (List.mem_of_getElem? (i := 121) (by decide +kernel)) rfl
theorem wd_1_122 : (Jvm.Cond.classLink "AppendStore$Directory" (11 : Nat) "AppendStore$Rec") ∈ aw_ws := aw_t1 (List.mem_of_getElem? (i := 122) (by decide +kernel)) rfl
theorem wd_1_123 : (Jvm.Cond.fieldLink "AppendStore$Directory" (13 : Nat) "AppendStore$Directory" "rows" "[LAppendStore$Rec;") ∈ aw_ws := aw_t1 (List.mem_of_getElem? (i := 123) (by decide +kernel)) rfl
theorem wd_1_124 : (Jvm.Cond.fieldLink "AppendStore$Directory" (19 : Nat) "AppendStore$Directory" "count" "I") ∈ aw_ws := aw_t1 (List.mem_of_getElem? (i := 124) (by decide +kernel)) rfl
theorem wd_1_125 : (Jvm.Cond.laysFinal "AppendStore$Directory" "AppendStore$Directory" "rows" "[LAppendStore$Rec;") ∈ aw_ws := aw_t1 (List.mem_of_getElem? (i := 125) (by decide +kernel)) rfl
theorem wd_1_127 : (Jvm.Cond.lays "AppendStore$Directory" "AppendStore$Directory" "count" "I") ∈ aw_ws := aw_t1 (List.mem_of_getElem? (i := 127) (by decide +kernel)) rfl
theorem wd_1_130 : (Jvm.Cond.classLink "AppendStore" (23 : Nat) "AppendStore$Merger") ∈ aw_ws := aw_t1 (List.mem_of_getElem? (i := 130) (by decide +kernel)) rfl
theorem wd_1_131 : (Jvm.Cond.instantiable "AppendStore$Merger" (5 : Nat)) ∈ aw_ws := aw_t1 (List.mem_of_getElem? (i := 131) (by decide +kernel)) rfl
theorem wd_1_132 : (Jvm.Cond.methodLink "AppendStore" (25 : Nat) ({ cls := "AppendStore$Merger", name := "<init>", desc := "()V" } : Jvm.MethodName)) ∈ aw_ws := aw_t1 (List.mem_of_getElem? (i := 132) (by decide +kernel)) rfl
theorem wd_1_133 : (Jvm.Cond.instanceMethod ({ cls := "AppendStore$Merger", name := "<init>", desc := "()V" } : Jvm.MethodName)) ∈ aw_ws := aw_t1 (List.mem_of_getElem? (i := 133) (by decide +kernel)) rfl
theorem wd_1_134 : (Jvm.Cond.code ({ cls := "AppendStore$Merger", name := "<init>", desc := "()V" } : Jvm.MethodName) prog_5_method_1_code (2 : Nat) (Option.none : Option Jvm.ClassFile.FieldType)) ∈ aw_ws := aw_t1 (List.mem_of_getElem? (i := 134) (by decide +kernel)) rfl
theorem wd_1_135 : (Jvm.Cond.methodLink "AppendStore$Merger" (3 : Nat) ({ cls := "java/lang/Object", name := "<init>", desc := "()V" } : Jvm.MethodName)) ∈ aw_ws := aw_t1 (List.mem_of_getElem? (i := 135) (by decide +kernel)) rfl
theorem wd_1_136 : (Jvm.Cond.classLink "AppendStore$Merger" (9 : Nat) "AppendStore$StoreFile") ∈ aw_ws := aw_t1 (List.mem_of_getElem? (i := 136) (by decide +kernel)) rfl
theorem wd_1_137 : (Jvm.Cond.methodLink "AppendStore$Merger" (17 : Nat) ({ cls := "AppendStore$StoreFile", name := "<init>", desc := "()V" } : Jvm.MethodName)) ∈ aw_ws := aw_t1 (List.mem_of_getElem? (i := 137) (by decide +kernel)) rfl
theorem wd_1_138 : (Jvm.Cond.fieldLink "AppendStore$Merger" (11 : Nat) "AppendStore$Merger" "outputs" "[LAppendStore$StoreFile;") ∈ aw_ws := aw_t1 (List.mem_of_getElem? (i := 138) (by decide +kernel)) rfl
theorem wd_1_139 : (Jvm.Cond.fieldLink "AppendStore$Merger" (22 : Nat) "AppendStore$Merger" "outputCount" "I") ∈ aw_ws := aw_t1 (List.mem_of_getElem? (i := 139) (by decide +kernel)) rfl
theorem wd_1_140 : (Jvm.Cond.fieldLink "AppendStore$Merger" (18 : Nat) "AppendStore$Merger" "taken" "I") ∈ aw_ws := aw_t1 (List.mem_of_getElem? (i := 140) (by decide +kernel)) rfl
theorem wd_1_141 : (Jvm.Cond.fieldLink "AppendStore$Merger" (25 : Nat) "AppendStore$Merger" "atFile" "I") ∈ aw_ws := aw_t1 (List.mem_of_getElem? (i := 141) (by decide +kernel)) rfl
theorem wd_1_142 : (Jvm.Cond.fieldLink "AppendStore$Merger" (28 : Nat) "AppendStore$Merger" "atRecord" "I") ∈ aw_ws := aw_t1 (List.mem_of_getElem? (i := 142) (by decide +kernel)) rfl
theorem wd_1_143 : (Jvm.Cond.laysFinal "AppendStore$Merger" "AppendStore$Merger" "outputs" "[LAppendStore$StoreFile;") ∈ aw_ws := aw_t1 (List.mem_of_getElem? (i := 143) (by decide +kernel)) rfl
theorem wd_1_145 : (Jvm.Cond.lays "AppendStore$Merger" "AppendStore$Merger" "outputCount" "I") ∈ aw_ws := aw_t1 (List.mem_of_getElem? (i := 145) (by decide +kernel)) rfl
theorem wd_1_147 : (Jvm.Cond.lays "AppendStore$Merger" "AppendStore$Merger" "taken" "I") ∈ aw_ws := aw_t1 (List.mem_of_getElem? (i := 147) (by decide +kernel)) rfl
theorem wd_1_149 : (Jvm.Cond.lays "AppendStore$Merger" "AppendStore$Merger" "atFile" "I") ∈ aw_ws := aw_t1 (List.mem_of_getElem? (i := 149) (by decide +kernel)) rfl
theorem wd_1_151 : (Jvm.Cond.lays "AppendStore$Merger" "AppendStore$Merger" "atRecord" "I") ∈ aw_ws := aw_t1 (List.mem_of_getElem? (i := 151) (by decide +kernel)) rfl
theorem wd_1_154 : (Jvm.Cond.fieldLink "AppendStore" (10 : Nat) "AppendStore" "shelf" "LAppendStore$Shelf;") ∈ aw_ws := aw_t1 (List.mem_of_getElem? (i := 154) (by decide +kernel)) rfl
theorem wd_1_155 : (Jvm.Cond.fieldLink "AppendStore" (19 : Nat) "AppendStore" "directory" "LAppendStore$Directory;") ∈ aw_ws := aw_t1 (List.mem_of_getElem? (i := 155) (by decide +kernel)) rfl
theorem wd_1_156 : (Jvm.Cond.fieldLink "AppendStore" (26 : Nat) "AppendStore" "merger" "LAppendStore$Merger;") ∈ aw_ws := aw_t1 (List.mem_of_getElem? (i := 156) (by decide +kernel)) rfl
theorem wd_1_157 : (Jvm.Cond.fieldLink "AppendStore" (30 : Nat) "AppendStore" "changes" "I") ∈ aw_ws := aw_t1 (List.mem_of_getElem? (i := 157) (by decide +kernel)) rfl
theorem wd_1_158 : (Jvm.Cond.fieldLink "AppendStore" (34 : Nat) "AppendStore" "closed" "Z") ∈ aw_ws := aw_t1 (List.mem_of_getElem? (i := 158) (by decide +kernel)) rfl
theorem wd_1_159 : (Jvm.Cond.laysFinal "AppendStore" "AppendStore" "shelf" "LAppendStore$Shelf;") ∈ aw_ws := aw_t1 (List.mem_of_getElem? (i := 159) (by decide +kernel)) rfl
theorem wd_1_161 : (Jvm.Cond.laysFinal "AppendStore" "AppendStore" "directory" "LAppendStore$Directory;") ∈ aw_ws := aw_t1 (List.mem_of_getElem? (i := 161) (by decide +kernel)) rfl
theorem wd_1_163 : (Jvm.Cond.laysFinal "AppendStore" "AppendStore" "merger" "LAppendStore$Merger;") ∈ aw_ws := aw_t1 (List.mem_of_getElem? (i := 163) (by decide +kernel)) rfl
theorem wd_1_165 : (Jvm.Cond.lays "AppendStore" "AppendStore" "changes" "I") ∈ aw_ws := aw_t1 (List.mem_of_getElem? (i := 165) (by decide +kernel)) rfl
theorem wd_1_167 : (Jvm.Cond.lays "AppendStore" "AppendStore" "closed" "Z") ∈ aw_ws := aw_t1 (List.mem_of_getElem? (i := 167) (by decide +kernel)) rfl
theorem wd_1_174 : (Jvm.Cond.methodLink "AppendStore" (117 : Nat) ({ cls := "AppendStore$Merger", name := "drop", desc := "()V" } : Jvm.MethodName)) ∈ aw_ws := aw_t1 (List.mem_of_getElem? (i := 174) (by decide +kernel)) rfl
theorem wd_1_175 : (Jvm.Cond.instanceMethod ({ cls := "AppendStore$Merger", name := "drop", desc := "()V" } : Jvm.MethodName)) ∈ aw_ws := aw_t1 (List.mem_of_getElem? (i := 175) (by decide +kernel)) rfl
theorem wd_1_176 : (Jvm.Cond.selects "AppendStore$Merger" ({ cls := "AppendStore$Merger", name := "drop", desc := "()V" } : Jvm.MethodName) ({ cls := "AppendStore$Merger", name := "drop", desc := "()V" } : Jvm.MethodName)) ∈ aw_ws := aw_t1 (List.mem_of_getElem? (i := 176) (by decide +kernel)) rfl
theorem wd_1_177 : (Jvm.Cond.code ({ cls := "AppendStore$Merger", name := "drop", desc := "()V" } : Jvm.MethodName) prog_5_method_4_code (1 : Nat) (Option.none : Option Jvm.ClassFile.FieldType)) ∈ aw_ws := aw_t1 (List.mem_of_getElem? (i := 177) (by decide +kernel)) rfl
theorem wd_1_178 : (Jvm.Cond.methodLink "AppendStore" (120 : Nat) ({ cls := "AppendStore$Directory", name := "clear", desc := "()V" } : Jvm.MethodName)) ∈ aw_ws := aw_t1 (List.mem_of_getElem? (i := 178) (by decide +kernel)) rfl
theorem wd_1_179 : (Jvm.Cond.instanceMethod ({ cls := "AppendStore$Directory", name := "clear", desc := "()V" } : Jvm.MethodName)) ∈ aw_ws := aw_t1 (List.mem_of_getElem? (i := 179) (by decide +kernel)) rfl
theorem wd_1_180 : (Jvm.Cond.selects "AppendStore$Directory" ({ cls := "AppendStore$Directory", name := "clear", desc := "()V" } : Jvm.MethodName) ({ cls := "AppendStore$Directory", name := "clear", desc := "()V" } : Jvm.MethodName)) ∈ aw_ws := aw_t1 (List.mem_of_getElem? (i := 180) (by decide +kernel)) rfl
theorem wd_1_181 : (Jvm.Cond.code ({ cls := "AppendStore$Directory", name := "clear", desc := "()V" } : Jvm.MethodName) prog_2_method_3_code (1 : Nat) (Option.none : Option Jvm.ClassFile.FieldType)) ∈ aw_ws := aw_t1 (List.mem_of_getElem? (i := 181) (by decide +kernel)) rfl
theorem wd_1_182 : (Jvm.Cond.methodLink "AppendStore" (123 : Nat) ({ cls := "AppendStore$Shelf", name := "sealActive", desc := "()V" } : Jvm.MethodName)) ∈ aw_ws := aw_t1 (List.mem_of_getElem? (i := 182) (by decide +kernel)) rfl
theorem wd_1_183 : (Jvm.Cond.instanceMethod ({ cls := "AppendStore$Shelf", name := "sealActive", desc := "()V" } : Jvm.MethodName)) ∈ aw_ws := aw_t1 (List.mem_of_getElem? (i := 183) (by decide +kernel)) rfl
theorem wd_1_184 : (Jvm.Cond.selects "AppendStore$Shelf" ({ cls := "AppendStore$Shelf", name := "sealActive", desc := "()V" } : Jvm.MethodName) ({ cls := "AppendStore$Shelf", name := "sealActive", desc := "()V" } : Jvm.MethodName)) ∈ aw_ws := aw_t1 (List.mem_of_getElem? (i := 184) (by decide +kernel)) rfl
theorem wd_1_185 : (Jvm.Cond.code ({ cls := "AppendStore$Shelf", name := "sealActive", desc := "()V" } : Jvm.MethodName) prog_8_method_7_code (1 : Nat) (Option.none : Option Jvm.ClassFile.FieldType)) ∈ aw_ws := aw_t1 (List.mem_of_getElem? (i := 185) (by decide +kernel)) rfl
theorem wd_1_186 : (Jvm.Cond.methodLink "AppendStore$Shelf" (49 : Nat) ({ cls := "AppendStore$Shelf", name := "syncActive", desc := "()V" } : Jvm.MethodName)) ∈ aw_ws := aw_t1 (List.mem_of_getElem? (i := 186) (by decide +kernel)) rfl
theorem wd_1_187 : (Jvm.Cond.instanceMethod ({ cls := "AppendStore$Shelf", name := "syncActive", desc := "()V" } : Jvm.MethodName)) ∈ aw_ws := aw_t1 (List.mem_of_getElem? (i := 187) (by decide +kernel)) rfl
theorem wd_1_188 : (Jvm.Cond.selects "AppendStore$Shelf" ({ cls := "AppendStore$Shelf", name := "syncActive", desc := "()V" } : Jvm.MethodName) ({ cls := "AppendStore$Shelf", name := "syncActive", desc := "()V" } : Jvm.MethodName)) ∈ aw_ws := aw_t1 (List.mem_of_getElem? (i := 188) (by decide +kernel)) rfl
theorem wd_1_189 : (Jvm.Cond.code ({ cls := "AppendStore$Shelf", name := "syncActive", desc := "()V" } : Jvm.MethodName) prog_8_method_6_code (1 : Nat) (Option.none : Option Jvm.ClassFile.FieldType)) ∈ aw_ws := aw_t1 (List.mem_of_getElem? (i := 189) (by decide +kernel)) rfl
theorem wd_1_190 : (Jvm.Cond.methodLink "AppendStore$Shelf" (46 : Nat) ({ cls := "AppendStore$StoreFile", name := "syncAll", desc := "()V" } : Jvm.MethodName)) ∈ aw_ws := aw_t1 (List.mem_of_getElem? (i := 190) (by decide +kernel)) rfl
theorem wd_1_191 : (Jvm.Cond.instanceMethod ({ cls := "AppendStore$StoreFile", name := "syncAll", desc := "()V" } : Jvm.MethodName)) ∈ aw_ws := aw_t1 (List.mem_of_getElem? (i := 191) (by decide +kernel)) rfl
theorem wd_1_192 : (Jvm.Cond.selects "AppendStore$StoreFile" ({ cls := "AppendStore$StoreFile", name := "syncAll", desc := "()V" } : Jvm.MethodName) ({ cls := "AppendStore$StoreFile", name := "syncAll", desc := "()V" } : Jvm.MethodName)) ∈ aw_ws := aw_t1 (List.mem_of_getElem? (i := 192) (by decide +kernel)) rfl
theorem wd_1_193 : (Jvm.Cond.code ({ cls := "AppendStore$StoreFile", name := "syncAll", desc := "()V" } : Jvm.MethodName) prog_9_method_9_code (1 : Nat) (Option.none : Option Jvm.ClassFile.FieldType)) ∈ aw_ws := aw_t1 (List.mem_of_getElem? (i := 193) (by decide +kernel)) rfl
theorem wd_1_194 : (Jvm.Cond.methodLink "AppendStore$StoreFile" (43 : Nat) ({ cls := "AppendStore$Octets", name := "size", desc := "()I" } : Jvm.MethodName)) ∈ aw_ws := aw_t1 (List.mem_of_getElem? (i := 194) (by decide +kernel)) rfl
theorem wd_1_195 : (Jvm.Cond.instanceMethod ({ cls := "AppendStore$Octets", name := "size", desc := "()I" } : Jvm.MethodName)) ∈ aw_ws := aw_t1 (List.mem_of_getElem? (i := 195) (by decide +kernel)) rfl
theorem wd_1_196 : (Jvm.Cond.selects "AppendStore$Octets" ({ cls := "AppendStore$Octets", name := "size", desc := "()I" } : Jvm.MethodName) ({ cls := "AppendStore$Octets", name := "size", desc := "()I" } : Jvm.MethodName)) ∈ aw_ws := aw_t1 (List.mem_of_getElem? (i := 196) (by decide +kernel)) rfl
theorem wd_1_197 : (Jvm.Cond.code ({ cls := "AppendStore$Octets", name := "size", desc := "()I" } : Jvm.MethodName) prog_6_method_2_code (1 : Nat) (Option.some Jvm.ClassFile.FieldType.int)) ∈ aw_ws := aw_t1 (List.mem_of_getElem? (i := 197) (by decide +kernel)) rfl
theorem wd_1_198 : (Jvm.Cond.methodLink "AppendStore" (126 : Nat) ({ cls := "AppendStore$Shelf", name := "count", desc := "()I" } : Jvm.MethodName)) ∈ aw_ws := aw_t1 (List.mem_of_getElem? (i := 198) (by decide +kernel)) rfl
theorem wd_1_199 : (Jvm.Cond.instanceMethod ({ cls := "AppendStore$Shelf", name := "count", desc := "()I" } : Jvm.MethodName)) ∈ aw_ws := aw_t1 (List.mem_of_getElem? (i := 199) (by decide +kernel)) rfl
theorem wd_1_200 : (Jvm.Cond.selects "AppendStore$Shelf" ({ cls := "AppendStore$Shelf", name := "count", desc := "()I" } : Jvm.MethodName) ({ cls := "AppendStore$Shelf", name := "count", desc := "()I" } : Jvm.MethodName)) ∈ aw_ws := aw_t1 (List.mem_of_getElem? (i := 200) (by decide +kernel)) rfl
theorem wd_1_201 : (Jvm.Cond.code ({ cls := "AppendStore$Shelf", name := "count", desc := "()I" } : Jvm.MethodName) prog_8_method_2_code (1 : Nat) (Option.some Jvm.ClassFile.FieldType.int)) ∈ aw_ws := aw_t1 (List.mem_of_getElem? (i := 201) (by decide +kernel)) rfl
theorem wd_1_202 : (Jvm.Cond.methodLink "AppendStore" (127 : Nat) ({ cls := "AppendStore$Shelf", name := "at", desc := "(I)LAppendStore$StoreFile;" } : Jvm.MethodName)) ∈ aw_ws := aw_t1 (List.mem_of_getElem? (i := 202) (by decide +kernel)) rfl
theorem wd_1_203 : (Jvm.Cond.instanceMethod ({ cls := "AppendStore$Shelf", name := "at", desc := "(I)LAppendStore$StoreFile;" } : Jvm.MethodName)) ∈ aw_ws := aw_t1 (List.mem_of_getElem? (i := 203) (by decide +kernel)) rfl
theorem wd_1_204 : (Jvm.Cond.selects "AppendStore$Shelf" ({ cls := "AppendStore$Shelf", name := "at", desc := "(I)LAppendStore$StoreFile;" } : Jvm.MethodName) ({ cls := "AppendStore$Shelf", name := "at", desc := "(I)LAppendStore$StoreFile;" } : Jvm.MethodName)) ∈ aw_ws := aw_t1 (List.mem_of_getElem? (i := 204) (by decide +kernel)) rfl
theorem wd_1_205 : (Jvm.Cond.code ({ cls := "AppendStore$Shelf", name := "at", desc := "(I)LAppendStore$StoreFile;" } : Jvm.MethodName) prog_8_method_3_code (2 : Nat) (Option.some (Jvm.ClassFile.FieldType.object "AppendStore$StoreFile"))) ∈ aw_ws := aw_t1 (List.mem_of_getElem? (i := 205) (by decide +kernel)) rfl
theorem wd_1_206 : (Jvm.Cond.methodLink "AppendStore" (130 : Nat) ({ cls := "AppendStore$StoreFile", name := "learn", desc := "(Z)V" } : Jvm.MethodName)) ∈ aw_ws := aw_t1 (List.mem_of_getElem? (i := 206) (by decide +kernel)) rfl
theorem wd_1_207 : (Jvm.Cond.instanceMethod ({ cls := "AppendStore$StoreFile", name := "learn", desc := "(Z)V" } : Jvm.MethodName)) ∈ aw_ws := aw_t1 (List.mem_of_getElem? (i := 207) (by decide +kernel)) rfl
theorem wd_1_208 : (Jvm.Cond.selects "AppendStore$StoreFile" ({ cls := "AppendStore$StoreFile", name := "learn", desc := "(Z)V" } : Jvm.MethodName) ({ cls := "AppendStore$StoreFile", name := "learn", desc := "(Z)V" } : Jvm.MethodName)) ∈ aw_ws := aw_t1 (List.mem_of_getElem? (i := 208) (by decide +kernel)) rfl
theorem wd_1_209 : (Jvm.Cond.code ({ cls := "AppendStore$StoreFile", name := "learn", desc := "(Z)V" } : Jvm.MethodName) prog_9_method_16_code (2 : Nat) (Option.none : Option Jvm.ClassFile.FieldType)) ∈ aw_ws := aw_t1 (List.mem_of_getElem? (i := 209) (by decide +kernel)) rfl
theorem wd_1_210 : (Jvm.Cond.methodLink "AppendStore$StoreFile" (111 : Nat) ({ cls := "AppendStore$StoreFile", name := "learnFromHint", desc := "()Z" } : Jvm.MethodName)) ∈ aw_ws := aw_t1 (List.mem_of_getElem? (i := 210) (by decide +kernel)) rfl
theorem wd_1_212 : (Jvm.Cond.instanceMethod ({ cls := "AppendStore$StoreFile", name := "learnFromHint", desc := "()Z" } : Jvm.MethodName)) ∈ aw_ws := aw_t1 (List.mem_of_getElem? (i := 212) (by decide +kernel)) rfl
theorem wd_1_213 : (Jvm.Cond.code ({ cls := "AppendStore$StoreFile", name := "learnFromHint", desc := "()Z" } : Jvm.MethodName) prog_9_method_17_code (9 : Nat) (Option.some Jvm.ClassFile.FieldType.boolean)) ∈ aw_ws := aw_t1 (List.mem_of_getElem? (i := 213) (by decide +kernel)) rfl
theorem wd_1_214 : (Jvm.Cond.methodLink "AppendStore$StoreFile" (99 : Nat) ({ cls := "AppendStore$Octets", name := "number", desc := "(II)J" } : Jvm.MethodName)) ∈ aw_ws := aw_t1 (List.mem_of_getElem? (i := 214) (by decide +kernel)) rfl
theorem wd_1_215 : (Jvm.Cond.instanceMethod ({ cls := "AppendStore$Octets", name := "number", desc := "(II)J" } : Jvm.MethodName)) ∈ aw_ws := aw_t1 (List.mem_of_getElem? (i := 215) (by decide +kernel)) rfl
theorem wd_1_216 : (Jvm.Cond.selects "AppendStore$Octets" ({ cls := "AppendStore$Octets", name := "number", desc := "(II)J" } : Jvm.MethodName) ({ cls := "AppendStore$Octets", name := "number", desc := "(II)J" } : Jvm.MethodName)) ∈ aw_ws := aw_t1 (List.mem_of_getElem? (i := 216) (by decide +kernel)) rfl
theorem wd_1_217 : (Jvm.Cond.code ({ cls := "AppendStore$Octets", name := "number", desc := "(II)J" } : Jvm.MethodName) prog_6_method_11_code (6 : Nat) (Option.some Jvm.ClassFile.FieldType.long)) ∈ aw_ws := aw_t1 (List.mem_of_getElem? (i := 217) (by decide +kernel)) rfl
theorem wd_1_218 : (Jvm.Cond.methodLink "AppendStore$Octets" (25 : Nat) ({ cls := "AppendStore$Octets", name := "at", desc := "(I)I" } : Jvm.MethodName)) ∈ aw_ws := aw_t1 (List.mem_of_getElem? (i := 218) (by decide +kernel)) rfl
theorem wd_1_219 : (Jvm.Cond.instanceMethod ({ cls := "AppendStore$Octets", name := "at", desc := "(I)I" } : Jvm.MethodName)) ∈ aw_ws := aw_t1 (List.mem_of_getElem? (i := 219) (by decide +kernel)) rfl
theorem wd_1_220 : (Jvm.Cond.selects "AppendStore$Octets" ({ cls := "AppendStore$Octets", name := "at", desc := "(I)I" } : Jvm.MethodName) ({ cls := "AppendStore$Octets", name := "at", desc := "(I)I" } : Jvm.MethodName)) ∈ aw_ws := aw_t1 (List.mem_of_getElem? (i := 220) (by decide +kernel)) rfl
theorem wd_1_221 : (Jvm.Cond.code ({ cls := "AppendStore$Octets", name := "at", desc := "(I)I" } : Jvm.MethodName) prog_6_method_5_code (2 : Nat) (Option.some Jvm.ClassFile.FieldType.int)) ∈ aw_ws := aw_t1 (List.mem_of_getElem? (i := 221) (by decide +kernel)) rfl
theorem wd_1_222 : (Jvm.Cond.methodLink "AppendStore$StoreFile" (76 : Nat) ({ cls := "AppendStore$Octets", name := "sum", desc := "(II)J" } : Jvm.MethodName)) ∈ aw_ws := aw_t1 (List.mem_of_getElem? (i := 222) (by decide +kernel)) rfl
theorem wd_1_223 : (Jvm.Cond.instanceMethod ({ cls := "AppendStore$Octets", name := "sum", desc := "(II)J" } : Jvm.MethodName)) ∈ aw_ws := aw_t1 (List.mem_of_getElem? (i := 223) (by decide +kernel)) rfl
theorem wd_1_224 : (Jvm.Cond.selects "AppendStore$Octets" ({ cls := "AppendStore$Octets", name := "sum", desc := "(II)J" } : Jvm.MethodName) ({ cls := "AppendStore$Octets", name := "sum", desc := "(II)J" } : Jvm.MethodName)) ∈ aw_ws := aw_t1 (List.mem_of_getElem? (i := 224) (by decide +kernel)) rfl
theorem wd_1_225 : (Jvm.Cond.code ({ cls := "AppendStore$Octets", name := "sum", desc := "(II)J" } : Jvm.MethodName) prog_6_method_13_code (6 : Nat) (Option.some Jvm.ClassFile.FieldType.long)) ∈ aw_ws := aw_t1 (List.mem_of_getElem? (i := 225) (by decide +kernel)) rfl
theorem wd_1_226 : (Jvm.Cond.constant "AppendStore$Octets" (35 : Nat) (-306674912 : Int32)) ∈ aw_ws := aw_t1 (List.mem_of_getElem? (i := 226) (by decide +kernel)) rfl
theorem wd_1_227 : (Jvm.Cond.constantLong "AppendStore$Octets" (36 : Nat) (4294967295 : Int64)) ∈ aw_ws := aw_t1 (List.mem_of_getElem? (i := 227) (by decide +kernel)) rfl
theorem wd_1_228 : (Jvm.Cond.methodLink "AppendStore$StoreFile" (118 : Nat) ({ cls := "AppendStore$Octets", name := "at", desc := "(I)I" } : Jvm.MethodName)) ∈ aw_ws := aw_t1 (List.mem_of_getElem? (i := 228) (by decide +kernel)) rfl
theorem wd_1_229 : (Jvm.Cond.methodLink "AppendStore$StoreFile" (121 : Nat) ({ cls := "AppendStore$Layout", name := "isKeySize", desc := "(I)Z" } : Jvm.MethodName)) ∈ aw_ws := aw_t1 (List.mem_of_getElem? (i := 229) (by decide +kernel)) rfl
theorem wd_1_230 : (Jvm.Cond.static ({ cls := "AppendStore$Layout", name := "isKeySize", desc := "(I)Z" } : Jvm.MethodName)) ∈ aw_ws := aw_t1 (List.mem_of_getElem? (i := 230) (by decide +kernel)) rfl
theorem wd_1_231 : (Jvm.Cond.code ({ cls := "AppendStore$Layout", name := "isKeySize", desc := "(I)Z" } : Jvm.MethodName) prog_4_method_4_code (1 : Nat) (Option.some Jvm.ClassFile.FieldType.boolean)) ∈ aw_ws := aw_t1 (List.mem_of_getElem? (i := 231) (by decide +kernel)) rfl
theorem wd_1_232 : (Jvm.Cond.methodLink "AppendStore$StoreFile" (125 : Nat) ({ cls := "AppendStore$Layout", name := "isValueSize", desc := "(I)Z" } : Jvm.MethodName)) ∈ aw_ws := aw_t1 (List.mem_of_getElem? (i := 232) (by decide +kernel)) rfl
theorem wd_1_233 : (Jvm.Cond.static ({ cls := "AppendStore$Layout", name := "isValueSize", desc := "(I)Z" } : Jvm.MethodName)) ∈ aw_ws := aw_t1 (List.mem_of_getElem? (i := 233) (by decide +kernel)) rfl
theorem wd_1_234 : (Jvm.Cond.code ({ cls := "AppendStore$Layout", name := "isValueSize", desc := "(I)Z" } : Jvm.MethodName) prog_4_method_5_code (1 : Nat) (Option.some Jvm.ClassFile.FieldType.boolean)) ∈ aw_ws := aw_t1 (List.mem_of_getElem? (i := 234) (by decide +kernel)) rfl
theorem wd_1_235 : (Jvm.Cond.methodLink "AppendStore$StoreFile" (128 : Nat) ({ cls := "AppendStore$Key", name := "rank", desc := "(JI)J" } : Jvm.MethodName)) ∈ aw_ws := aw_t1 (List.mem_of_getElem? (i := 235) (by decide +kernel)) rfl
theorem wd_1_236 : (Jvm.Cond.static ({ cls := "AppendStore$Key", name := "rank", desc := "(JI)J" } : Jvm.MethodName)) ∈ aw_ws := aw_t1 (List.mem_of_getElem? (i := 236) (by decide +kernel)) rfl
theorem wd_1_237 : (Jvm.Cond.code ({ cls := "AppendStore$Key", name := "rank", desc := "(JI)J" } : Jvm.MethodName) prog_3_method_2_code (5 : Nat) (Option.some Jvm.ClassFile.FieldType.long)) ∈ aw_ws := aw_t1 (List.mem_of_getElem? (i := 237) (by decide +kernel)) rfl
theorem wd_1_238 : (Jvm.Cond.methodLink "AppendStore$Key" (7 : Nat) ({ cls := "AppendStore$Key", name := "missingBits", desc := "(I)I" } : Jvm.MethodName)) ∈ aw_ws := aw_t1 (List.mem_of_getElem? (i := 238) (by decide +kernel)) rfl
theorem wd_1_239 : (Jvm.Cond.static ({ cls := "AppendStore$Key", name := "missingBits", desc := "(I)I" } : Jvm.MethodName)) ∈ aw_ws := aw_t1 (List.mem_of_getElem? (i := 239) (by decide +kernel)) rfl
theorem wd_2_0 : (Jvm.Cond.code ({ cls := "AppendStore$Key", name := "missingBits", desc := "(I)I" } : Jvm.MethodName) prog_3_method_5_code (1 : Nat) (Option.some Jvm.ClassFile.FieldType.int)) ∈ aw_ws := aw_t2 (List.mem_of_getElem? (i := 0) (by decide +kernel)) rfl
theorem wd_2_1 : (Jvm.Cond.methodLink "AppendStore$StoreFile" (84 : Nat) ({ cls := "AppendStore$StoreFile", name := "note", desc := "(IJILAppendStore$Rec;)LAppendStore$Rec;" } : Jvm.MethodName)) ∈ aw_ws := aw_t2 (List.mem_of_getElem? (i := 1) (by decide +kernel)) rfl
theorem wd_2_3 : (Jvm.Cond.instanceMethod ({ cls := "AppendStore$StoreFile", name := "note", desc := "(IJILAppendStore$Rec;)LAppendStore$Rec;" } : Jvm.MethodName)) ∈ aw_ws := aw_t2 (List.mem_of_getElem? (i := 3) (by decide +kernel)) rfl
theorem wd_2_4 : (Jvm.Cond.code ({ cls := "AppendStore$StoreFile", name := "note", desc := "(IJILAppendStore$Rec;)LAppendStore$Rec;" } : Jvm.MethodName) prog_9_method_20_code (7 : Nat) (Option.some (Jvm.ClassFile.FieldType.object "AppendStore$Rec"))) ∈ aw_ws := aw_t2 (List.mem_of_getElem? (i := 4) (by decide +kernel)) rfl
theorem wd_2_5 : (Jvm.Cond.methodLink "AppendStore$StoreFile" (131 : Nat) ({ cls := "AppendStore$Layout", name := "recordBytes", desc := "(II)I" } : Jvm.MethodName)) ∈ aw_ws := aw_t2 (List.mem_of_getElem? (i := 5) (by decide +kernel)) rfl
theorem wd_2_6 : (Jvm.Cond.static ({ cls := "AppendStore$Layout", name := "recordBytes", desc := "(II)I" } : Jvm.MethodName)) ∈ aw_ws := aw_t2 (List.mem_of_getElem? (i := 6) (by decide +kernel)) rfl
theorem wd_2_7 : (Jvm.Cond.code ({ cls := "AppendStore$Layout", name := "recordBytes", desc := "(II)I" } : Jvm.MethodName) prog_4_method_3_code (2 : Nat) (Option.some Jvm.ClassFile.FieldType.int)) ∈ aw_ws := aw_t2 (List.mem_of_getElem? (i := 7) (by decide +kernel)) rfl
theorem wd_2_8 : (Jvm.Cond.methodLink "AppendStore$Layout" (9 : Nat) ({ cls := "AppendStore$Layout", name := "valueBytes", desc := "(I)I" } : Jvm.MethodName)) ∈ aw_ws := aw_t2 (List.mem_of_getElem? (i := 8) (by decide +kernel)) rfl
theorem wd_2_9 : (Jvm.Cond.static ({ cls := "AppendStore$Layout", name := "valueBytes", desc := "(I)I" } : Jvm.MethodName)) ∈ aw_ws := aw_t2 (List.mem_of_getElem? (i := 9) (by decide +kernel)) rfl
theorem wd_2_10 : (Jvm.Cond.code ({ cls := "AppendStore$Layout", name := "valueBytes", desc := "(I)I" } : Jvm.MethodName) prog_4_method_2_code (1 : Nat) (Option.some Jvm.ClassFile.FieldType.int)) ∈ aw_ws := aw_t2 (List.mem_of_getElem? (i := 10) (by decide +kernel)) rfl
theorem wd_2_11 : (Jvm.Cond.methodLink "AppendStore$StoreFile" (115 : Nat) ({ cls := "AppendStore$StoreFile", name := "learnFromBytes", desc := "()V" } : Jvm.MethodName)) ∈ aw_ws := aw_t2 (List.mem_of_getElem? (i := 11) (by decide +kernel)) rfl
theorem wd_2_13 : (Jvm.Cond.instanceMethod ({ cls := "AppendStore$StoreFile", name := "learnFromBytes", desc := "()V" } : Jvm.MethodName)) ∈ aw_ws := aw_t2 (List.mem_of_getElem? (i := 13) (by decide +kernel)) rfl
theorem wd_2_14 : (Jvm.Cond.code ({ cls := "AppendStore$StoreFile", name := "learnFromBytes", desc := "()V" } : Jvm.MethodName) prog_9_method_18_code (7 : Nat) (Option.none : Option Jvm.ClassFile.FieldType)) ∈ aw_ws := aw_t2 (List.mem_of_getElem? (i := 14) (by decide +kernel)) rfl
theorem wd_2_15 : (Jvm.Cond.methodLink "AppendStore$StoreFile" (135 : Nat) ({ cls := "AppendStore$StoreFile", name := "soundSize", desc := "(I)I" } : Jvm.MethodName)) ∈ aw_ws := aw_t2 (List.mem_of_getElem? (i := 15) (by decide +kernel)) rfl
theorem wd_2_17 : (Jvm.Cond.instanceMethod ({ cls := "AppendStore$StoreFile", name := "soundSize", desc := "(I)I" } : Jvm.MethodName)) ∈ aw_ws := aw_t2 (List.mem_of_getElem? (i := 17) (by decide +kernel)) rfl
theorem wd_2_18 : (Jvm.Cond.code ({ cls := "AppendStore$StoreFile", name := "soundSize", desc := "(I)I" } : Jvm.MethodName) prog_9_method_19_code (6 : Nat) (Option.some Jvm.ClassFile.FieldType.int)) ∈ aw_ws := aw_t2 (List.mem_of_getElem? (i := 18) (by decide +kernel)) rfl
theorem wd_2_19 : (Jvm.Cond.methodLink "AppendStore$StoreFile" (138 : Nat) ({ cls := "AppendStore$StoreFile", name := "hasRightSum", desc := "(II)Z" } : Jvm.MethodName)) ∈ aw_ws := aw_t2 (List.mem_of_getElem? (i := 19) (by decide +kernel)) rfl
theorem wd_2_20 : (Jvm.Cond.instanceMethod ({ cls := "AppendStore$StoreFile", name := "hasRightSum", desc := "(II)Z" } : Jvm.MethodName)) ∈ aw_ws := aw_t2 (List.mem_of_getElem? (i := 20) (by decide +kernel)) rfl
theorem wd_2_21 : (Jvm.Cond.selects "AppendStore$StoreFile" ({ cls := "AppendStore$StoreFile", name := "hasRightSum", desc := "(II)Z" } : Jvm.MethodName) ({ cls := "AppendStore$StoreFile", name := "hasRightSum", desc := "(II)Z" } : Jvm.MethodName)) ∈ aw_ws := aw_t2 (List.mem_of_getElem? (i := 21) (by decide +kernel)) rfl
theorem wd_2_22 : (Jvm.Cond.code ({ cls := "AppendStore$StoreFile", name := "hasRightSum", desc := "(II)Z" } : Jvm.MethodName) prog_9_method_14_code (3 : Nat) (Option.some Jvm.ClassFile.FieldType.boolean)) ∈ aw_ws := aw_t2 (List.mem_of_getElem? (i := 22) (by decide +kernel)) rfl
theorem wd_2_23 : (Jvm.Cond.methodLink "AppendStore$StoreFile" (30 : Nat) ({ cls := "AppendStore$Octets", name := "cutTo", desc := "(I)V" } : Jvm.MethodName)) ∈ aw_ws := aw_t2 (List.mem_of_getElem? (i := 23) (by decide +kernel)) rfl
theorem wd_2_24 : (Jvm.Cond.instanceMethod ({ cls := "AppendStore$Octets", name := "cutTo", desc := "(I)V" } : Jvm.MethodName)) ∈ aw_ws := aw_t2 (List.mem_of_getElem? (i := 24) (by decide +kernel)) rfl
theorem wd_2_25 : (Jvm.Cond.selects "AppendStore$Octets" ({ cls := "AppendStore$Octets", name := "cutTo", desc := "(I)V" } : Jvm.MethodName) ({ cls := "AppendStore$Octets", name := "cutTo", desc := "(I)V" } : Jvm.MethodName)) ∈ aw_ws := aw_t2 (List.mem_of_getElem? (i := 25) (by decide +kernel)) rfl
theorem wd_2_26 : (Jvm.Cond.code ({ cls := "AppendStore$Octets", name := "cutTo", desc := "(I)V" } : Jvm.MethodName) prog_6_method_7_code (2 : Nat) (Option.none : Option Jvm.ClassFile.FieldType)) ∈ aw_ws := aw_t2 (List.mem_of_getElem? (i := 26) (by decide +kernel)) rfl
theorem wd_2_27 : (Jvm.Cond.methodLink "AppendStore$StoreFile" (47 : Nat) ({ cls := "AppendStore$StoreFile", name := "syncAll", desc := "()V" } : Jvm.MethodName)) ∈ aw_ws := aw_t2 (List.mem_of_getElem? (i := 27) (by decide +kernel)) rfl
theorem wd_2_28 : (Jvm.Cond.methodLink "AppendStore" (136 : Nat) ({ cls := "AppendStore", name := "enter", desc := "(LAppendStore$StoreFile;)V" } : Jvm.MethodName)) ∈ aw_ws := aw_t2 (List.mem_of_getElem? (i := 28) (by decide +kernel)) rfl
theorem wd_2_30 : (Jvm.Cond.instanceMethod ({ cls := "AppendStore", name := "enter", desc := "(LAppendStore$StoreFile;)V" } : Jvm.MethodName)) ∈ aw_ws := aw_t2 (List.mem_of_getElem? (i := 30) (by decide +kernel)) rfl
theorem wd_2_31 : (Jvm.Cond.code ({ cls := "AppendStore", name := "enter", desc := "(LAppendStore$StoreFile;)V" } : Jvm.MethodName) prog_1_method_19_code (4 : Nat) (Option.none : Option Jvm.ClassFile.FieldType)) ∈ aw_ws := aw_t2 (List.mem_of_getElem? (i := 31) (by decide +kernel)) rfl
theorem wd_2_32 : (Jvm.Cond.methodLink "AppendStore" (228 : Nat) ({ cls := "AppendStore$StoreFile", name := "recordCount", desc := "()I" } : Jvm.MethodName)) ∈ aw_ws := aw_t2 (List.mem_of_getElem? (i := 32) (by decide +kernel)) rfl
theorem wd_2_33 : (Jvm.Cond.instanceMethod ({ cls := "AppendStore$StoreFile", name := "recordCount", desc := "()I" } : Jvm.MethodName)) ∈ aw_ws := aw_t2 (List.mem_of_getElem? (i := 33) (by decide +kernel)) rfl
theorem wd_2_34 : (Jvm.Cond.selects "AppendStore$StoreFile" ({ cls := "AppendStore$StoreFile", name := "recordCount", desc := "()I" } : Jvm.MethodName) ({ cls := "AppendStore$StoreFile", name := "recordCount", desc := "()I" } : Jvm.MethodName)) ∈ aw_ws := aw_t2 (List.mem_of_getElem? (i := 34) (by decide +kernel)) rfl
theorem wd_2_35 : (Jvm.Cond.code ({ cls := "AppendStore$StoreFile", name := "recordCount", desc := "()I" } : Jvm.MethodName) prog_9_method_7_code (1 : Nat) (Option.some Jvm.ClassFile.FieldType.int)) ∈ aw_ws := aw_t2 (List.mem_of_getElem? (i := 35) (by decide +kernel)) rfl
theorem wd_2_36 : (Jvm.Cond.methodLink "AppendStore" (231 : Nat) ({ cls := "AppendStore$StoreFile", name := "record", desc := "(I)LAppendStore$Rec;" } : Jvm.MethodName)) ∈ aw_ws := aw_t2 (List.mem_of_getElem? (i := 36) (by decide +kernel)) rfl
theorem wd_2_37 : (Jvm.Cond.instanceMethod ({ cls := "AppendStore$StoreFile", name := "record", desc := "(I)LAppendStore$Rec;" } : Jvm.MethodName)) ∈ aw_ws := aw_t2 (List.mem_of_getElem? (i := 37) (by decide +kernel)) rfl
theorem wd_2_38 : (Jvm.Cond.selects "AppendStore$StoreFile" ({ cls := "AppendStore$StoreFile", name := "record", desc := "(I)LAppendStore$Rec;" } : Jvm.MethodName) ({ cls := "AppendStore$StoreFile", name := "record", desc := "(I)LAppendStore$Rec;" } : Jvm.MethodName)) ∈ aw_ws := aw_t2 (List.mem_of_getElem? (i := 38) (by decide +kernel)) rfl
theorem wd_2_39 : (Jvm.Cond.code ({ cls := "AppendStore$StoreFile", name := "record", desc := "(I)LAppendStore$Rec;" } : Jvm.MethodName) prog_9_method_8_code (2 : Nat) (Option.some (Jvm.ClassFile.FieldType.object "AppendStore$Rec"))) ∈ aw_ws := aw_t2 (List.mem_of_getElem? (i := 39) (by decide +kernel)) rfl
theorem wd_2_40 : (Jvm.Cond.methodLink "AppendStore" (224 : Nat) ({ cls := "AppendStore$Directory", name := "enter", desc := "(LAppendStore$Rec;)V" } : Jvm.MethodName)) ∈ aw_ws := aw_t2 (List.mem_of_getElem? (i := 40) (by decide +kernel)) rfl
theorem wd_2_41 : (Jvm.Cond.instanceMethod ({ cls := "AppendStore$Directory", name := "enter", desc := "(LAppendStore$Rec;)V" } : Jvm.MethodName)) ∈ aw_ws := aw_t2 (List.mem_of_getElem? (i := 41) (by decide +kernel)) rfl
theorem wd_2_42 : (Jvm.Cond.selects "AppendStore$Directory" ({ cls := "AppendStore$Directory", name := "enter", desc := "(LAppendStore$Rec;)V" } : Jvm.MethodName) ({ cls := "AppendStore$Directory", name := "enter", desc := "(LAppendStore$Rec;)V" } : Jvm.MethodName)) ∈ aw_ws := aw_t2 (List.mem_of_getElem? (i := 42) (by decide +kernel)) rfl
theorem wd_2_43 : (Jvm.Cond.code ({ cls := "AppendStore$Directory", name := "enter", desc := "(LAppendStore$Rec;)V" } : Jvm.MethodName) prog_2_method_7_code (5 : Nat) (Option.none : Option Jvm.ClassFile.FieldType)) ∈ aw_ws := aw_t2 (List.mem_of_getElem? (i := 43) (by decide +kernel)) rfl
theorem wd_2_44 : (Jvm.Cond.methodLink "AppendStore$Directory" (23 : Nat) ({ cls := "AppendStore$Directory", name := "firstFrom", desc := "(J)I" } : Jvm.MethodName)) ∈ aw_ws := aw_t2 (List.mem_of_getElem? (i := 44) (by decide +kernel)) rfl
theorem wd_2_46 : (Jvm.Cond.instanceMethod ({ cls := "AppendStore$Directory", name := "firstFrom", desc := "(J)I" } : Jvm.MethodName)) ∈ aw_ws := aw_t2 (List.mem_of_getElem? (i := 46) (by decide +kernel)) rfl
theorem wd_2_47 : (Jvm.Cond.code ({ cls := "AppendStore$Directory", name := "firstFrom", desc := "(J)I" } : Jvm.MethodName) prog_2_method_9_code (4 : Nat) (Option.some Jvm.ClassFile.FieldType.int)) ∈ aw_ws := aw_t2 (List.mem_of_getElem? (i := 47) (by decide +kernel)) rfl
theorem wd_2_48 : (Jvm.Cond.methodLink "AppendStore$Directory" (27 : Nat) ({ cls := "AppendStore$Directory", name := "at", desc := "(I)LAppendStore$Rec;" } : Jvm.MethodName)) ∈ aw_ws := aw_t2 (List.mem_of_getElem? (i := 48) (by decide +kernel)) rfl
theorem wd_2_49 : (Jvm.Cond.instanceMethod ({ cls := "AppendStore$Directory", name := "at", desc := "(I)LAppendStore$Rec;" } : Jvm.MethodName)) ∈ aw_ws := aw_t2 (List.mem_of_getElem? (i := 49) (by decide +kernel)) rfl
theorem wd_2_50 : (Jvm.Cond.selects "AppendStore$Directory" ({ cls := "AppendStore$Directory", name := "at", desc := "(I)LAppendStore$Rec;" } : Jvm.MethodName) ({ cls := "AppendStore$Directory", name := "at", desc := "(I)LAppendStore$Rec;" } : Jvm.MethodName)) ∈ aw_ws := aw_t2 (List.mem_of_getElem? (i := 50) (by decide +kernel)) rfl
theorem wd_2_51 : (Jvm.Cond.code ({ cls := "AppendStore$Directory", name := "at", desc := "(I)LAppendStore$Rec;" } : Jvm.MethodName) prog_2_method_4_code (2 : Nat) (Option.some (Jvm.ClassFile.FieldType.object "AppendStore$Rec"))) ∈ aw_ws := aw_t2 (List.mem_of_getElem? (i := 51) (by decide +kernel)) rfl
theorem wd_2_52 : (Jvm.Cond.methodLink "AppendStore$Directory" (39 : Nat) ({ cls := "AppendStore$Rec", name := "isTombstone", desc := "()Z" } : Jvm.MethodName)) ∈ aw_ws := aw_t2 (List.mem_of_getElem? (i := 52) (by decide +kernel)) rfl
theorem wd_2_53 : (Jvm.Cond.instanceMethod ({ cls := "AppendStore$Rec", name := "isTombstone", desc := "()Z" } : Jvm.MethodName)) ∈ aw_ws := aw_t2 (List.mem_of_getElem? (i := 53) (by decide +kernel)) rfl
theorem wd_2_54 : (Jvm.Cond.selects "AppendStore$Rec" ({ cls := "AppendStore$Rec", name := "isTombstone", desc := "()Z" } : Jvm.MethodName) ({ cls := "AppendStore$Rec", name := "isTombstone", desc := "()Z" } : Jvm.MethodName)) ∈ aw_ws := aw_t2 (List.mem_of_getElem? (i := 54) (by decide +kernel)) rfl
theorem wd_2_55 : (Jvm.Cond.code ({ cls := "AppendStore$Rec", name := "isTombstone", desc := "()Z" } : Jvm.MethodName) prog_7_method_2_code (1 : Nat) (Option.some Jvm.ClassFile.FieldType.boolean)) ∈ aw_ws := aw_t2 (List.mem_of_getElem? (i := 55) (by decide +kernel)) rfl
theorem wd_2_56 : (Jvm.Cond.methodLink "AppendStore$Directory" (43 : Nat) ({ cls := "AppendStore$Directory", name := "takeOut", desc := "(I)V" } : Jvm.MethodName)) ∈ aw_ws := aw_t2 (List.mem_of_getElem? (i := 56) (by decide +kernel)) rfl
theorem wd_2_58 : (Jvm.Cond.instanceMethod ({ cls := "AppendStore$Directory", name := "takeOut", desc := "(I)V" } : Jvm.MethodName)) ∈ aw_ws := aw_t2 (List.mem_of_getElem? (i := 58) (by decide +kernel)) rfl
theorem wd_2_59 : (Jvm.Cond.code ({ cls := "AppendStore$Directory", name := "takeOut", desc := "(I)V" } : Jvm.MethodName) prog_2_method_11_code (3 : Nat) (Option.none : Option Jvm.ClassFile.FieldType)) ∈ aw_ws := aw_t2 (List.mem_of_getElem? (i := 59) (by decide +kernel)) rfl
theorem wd_2_60 : (Jvm.Cond.methodLink "AppendStore$Directory" (47 : Nat) ({ cls := "AppendStore$Directory", name := "insert", desc := "(ILAppendStore$Rec;)V" } : Jvm.MethodName)) ∈ aw_ws := aw_t2 (List.mem_of_getElem? (i := 60) (by decide +kernel)) rfl
theorem wd_2_62 : (Jvm.Cond.instanceMethod ({ cls := "AppendStore$Directory", name := "insert", desc := "(ILAppendStore$Rec;)V" } : Jvm.MethodName)) ∈ aw_ws := aw_t2 (List.mem_of_getElem? (i := 62) (by decide +kernel)) rfl
theorem wd_2_63 : (Jvm.Cond.code ({ cls := "AppendStore$Directory", name := "insert", desc := "(ILAppendStore$Rec;)V" } : Jvm.MethodName) prog_2_method_10_code (4 : Nat) (Option.none : Option Jvm.ClassFile.FieldType)) ∈ aw_ws := aw_t2 (List.mem_of_getElem? (i := 63) (by decide +kernel)) rfl
theorem wd_2_64 : (Jvm.Cond.methodLink "AppendStore" (83 : Nat) ({ cls := "AppendStore$Directory", name := "count", desc := "()I" } : Jvm.MethodName)) ∈ aw_ws := aw_t2 (List.mem_of_getElem? (i := 64) (by decide +kernel)) rfl
theorem wd_2_65 : (Jvm.Cond.instanceMethod ({ cls := "AppendStore$Directory", name := "count", desc := "()I" } : Jvm.MethodName)) ∈ aw_ws := aw_t2 (List.mem_of_getElem? (i := 65) (by decide +kernel)) rfl
theorem wd_2_66 : (Jvm.Cond.selects "AppendStore$Directory" ({ cls := "AppendStore$Directory", name := "count", desc := "()I" } : Jvm.MethodName) ({ cls := "AppendStore$Directory", name := "count", desc := "()I" } : Jvm.MethodName)) ∈ aw_ws := aw_t2 (List.mem_of_getElem? (i := 66) (by decide +kernel)) rfl
theorem wd_2_67 : (Jvm.Cond.code ({ cls := "AppendStore$Directory", name := "count", desc := "()I" } : Jvm.MethodName) prog_2_method_2_code (1 : Nat) (Option.some Jvm.ClassFile.FieldType.int)) ∈ aw_ws := aw_t2 (List.mem_of_getElem? (i := 67) (by decide +kernel)) rfl
theorem wd_2_82 : (Jvm.Cond.methodLink "AppendStore" (40 : Nat) ({ cls := "AppendStore", name := "checkRange", desc := "(III)V" } : Jvm.MethodName)) ∈ aw_ws := aw_t2 (List.mem_of_getElem? (i := 82) (by decide +kernel)) rfl
theorem wd_2_83 : (Jvm.Cond.static ({ cls := "AppendStore", name := "checkRange", desc := "(III)V" } : Jvm.MethodName)) ∈ aw_ws := aw_t2 (List.mem_of_getElem? (i := 83) (by decide +kernel)) rfl
theorem wd_2_84 : (Jvm.Cond.code ({ cls := "AppendStore", name := "checkRange", desc := "(III)V" } : Jvm.MethodName) prog_1_method_16_code (3 : Nat) (Option.none : Option Jvm.ClassFile.FieldType)) ∈ aw_ws := aw_t2 (List.mem_of_getElem? (i := 84) (by decide +kernel)) rfl
theorem wd_2_85 : (Jvm.Cond.classLink "AppendStore" (166 : Nat) "java/lang/IllegalArgumentException") ∈ aw_ws := aw_t2 (List.mem_of_getElem? (i := 85) (by decide +kernel)) rfl
theorem wd_2_153 : (Jvm.Cond.methodLink "AppendStore" (44 : Nat) ({ cls := "AppendStore", name := "checkOpen", desc := "()V" } : Jvm.MethodName)) ∈ aw_ws := aw_t2 (List.mem_of_getElem? (i := 153) (by decide +kernel)) rfl
theorem wd_2_155 : (Jvm.Cond.instanceMethod ({ cls := "AppendStore", name := "checkOpen", desc := "()V" } : Jvm.MethodName)) ∈ aw_ws := aw_t2 (List.mem_of_getElem? (i := 155) (by decide +kernel)) rfl
theorem wd_2_156 : (Jvm.Cond.code ({ cls := "AppendStore", name := "checkOpen", desc := "()V" } : Jvm.MethodName) prog_1_method_15_code (1 : Nat) (Option.none : Option Jvm.ClassFile.FieldType)) ∈ aw_ws := aw_t2 (List.mem_of_getElem? (i := 156) (by decide +kernel)) rfl
theorem wd_2_157 : (Jvm.Cond.classLink "AppendStore" (146 : Nat) "java/lang/IllegalStateException") ∈ aw_ws := aw_t2 (List.mem_of_getElem? (i := 157) (by decide +kernel)) rfl
theorem wd_2_173 : (Jvm.Cond.methodLink "AppendStore" (47 : Nat) ({ cls := "AppendStore$Key", name := "rank", desc := "(JI)J" } : Jvm.MethodName)) ∈ aw_ws := aw_t2 (List.mem_of_getElem? (i := 173) (by decide +kernel)) rfl
theorem wd_2_174 : (Jvm.Cond.methodLink "AppendStore" (53 : Nat) ({ cls := "AppendStore", name := "append", desc := "(JJI)V" } : Jvm.MethodName)) ∈ aw_ws := aw_t2 (List.mem_of_getElem? (i := 174) (by decide +kernel)) rfl
theorem wd_2_176 : (Jvm.Cond.instanceMethod ({ cls := "AppendStore", name := "append", desc := "(JJI)V" } : Jvm.MethodName)) ∈ aw_ws := aw_t2 (List.mem_of_getElem? (i := 176) (by decide +kernel)) rfl
theorem wd_2_177 : (Jvm.Cond.code ({ cls := "AppendStore", name := "append", desc := "(JJI)V" } : Jvm.MethodName) prog_1_method_18_code (7 : Nat) (Option.none : Option Jvm.ClassFile.FieldType)) ∈ aw_ws := aw_t2 (List.mem_of_getElem? (i := 177) (by decide +kernel)) rfl
theorem wd_2_178 : (Jvm.Cond.methodLink "AppendStore" (96 : Nat) ({ cls := "AppendStore$Key", name := "size", desc := "(J)I" } : Jvm.MethodName)) ∈ aw_ws := aw_t2 (List.mem_of_getElem? (i := 178) (by decide +kernel)) rfl
theorem wd_2_179 : (Jvm.Cond.static ({ cls := "AppendStore$Key", name := "size", desc := "(J)I" } : Jvm.MethodName)) ∈ aw_ws := aw_t2 (List.mem_of_getElem? (i := 179) (by decide +kernel)) rfl
theorem wd_2_180 : (Jvm.Cond.code ({ cls := "AppendStore$Key", name := "size", desc := "(J)I" } : Jvm.MethodName) prog_3_method_3_code (2 : Nat) (Option.some Jvm.ClassFile.FieldType.int)) ∈ aw_ws := aw_t2 (List.mem_of_getElem? (i := 180) (by decide +kernel)) rfl
theorem wd_2_181 : (Jvm.Cond.constantLong "AppendStore$Key" (13 : Nat) (7 : Int64)) ∈ aw_ws := aw_t2 (List.mem_of_getElem? (i := 181) (by decide +kernel)) rfl
theorem wd_2_182 : (Jvm.Cond.methodLink "AppendStore" (212 : Nat) ({ cls := "AppendStore$Layout", name := "recordBytes", desc := "(II)I" } : Jvm.MethodName)) ∈ aw_ws := aw_t2 (List.mem_of_getElem? (i := 182) (by decide +kernel)) rfl
theorem wd_2_183 : (Jvm.Cond.methodLink "AppendStore" (216 : Nat) ({ cls := "AppendStore$Shelf", name := "withRoomFor", desc := "(I)LAppendStore$StoreFile;" } : Jvm.MethodName)) ∈ aw_ws := aw_t2 (List.mem_of_getElem? (i := 183) (by decide +kernel)) rfl
theorem wd_2_184 : (Jvm.Cond.instanceMethod ({ cls := "AppendStore$Shelf", name := "withRoomFor", desc := "(I)LAppendStore$StoreFile;" } : Jvm.MethodName)) ∈ aw_ws := aw_t2 (List.mem_of_getElem? (i := 184) (by decide +kernel)) rfl
theorem wd_2_185 : (Jvm.Cond.selects "AppendStore$Shelf" ({ cls := "AppendStore$Shelf", name := "withRoomFor", desc := "(I)LAppendStore$StoreFile;" } : Jvm.MethodName) ({ cls := "AppendStore$Shelf", name := "withRoomFor", desc := "(I)LAppendStore$StoreFile;" } : Jvm.MethodName)) ∈ aw_ws := aw_t2 (List.mem_of_getElem? (i := 185) (by decide +kernel)) rfl
theorem wd_2_186 : (Jvm.Cond.code ({ cls := "AppendStore$Shelf", name := "withRoomFor", desc := "(I)LAppendStore$StoreFile;" } : Jvm.MethodName) prog_8_method_5_code (2 : Nat) (Option.some (Jvm.ClassFile.FieldType.object "AppendStore$StoreFile"))) ∈ aw_ws := aw_t2 (List.mem_of_getElem? (i := 186) (by decide +kernel)) rfl
theorem wd_2_187 : (Jvm.Cond.methodLink "AppendStore$Shelf" (29 : Nat) ({ cls := "AppendStore$StoreFile", name := "bytes", desc := "()LAppendStore$Octets;" } : Jvm.MethodName)) ∈ aw_ws := aw_t2 (List.mem_of_getElem? (i := 187) (by decide +kernel)) rfl
theorem wd_2_188 : (Jvm.Cond.instanceMethod ({ cls := "AppendStore$StoreFile", name := "bytes", desc := "()LAppendStore$Octets;" } : Jvm.MethodName)) ∈ aw_ws := aw_t2 (List.mem_of_getElem? (i := 188) (by decide +kernel)) rfl
theorem wd_2_189 : (Jvm.Cond.selects "AppendStore$StoreFile" ({ cls := "AppendStore$StoreFile", name := "bytes", desc := "()LAppendStore$Octets;" } : Jvm.MethodName) ({ cls := "AppendStore$StoreFile", name := "bytes", desc := "()LAppendStore$Octets;" } : Jvm.MethodName)) ∈ aw_ws := aw_t2 (List.mem_of_getElem? (i := 189) (by decide +kernel)) rfl
theorem wd_2_190 : (Jvm.Cond.code ({ cls := "AppendStore$StoreFile", name := "bytes", desc := "()LAppendStore$Octets;" } : Jvm.MethodName) prog_9_method_5_code (1 : Nat) (Option.some (Jvm.ClassFile.FieldType.object "AppendStore$Octets"))) ∈ aw_ws := aw_t2 (List.mem_of_getElem? (i := 190) (by decide +kernel)) rfl
theorem wd_2_191 : (Jvm.Cond.methodLink "AppendStore$Shelf" (33 : Nat) ({ cls := "AppendStore$Octets", name := "hasRoomFor", desc := "(I)Z" } : Jvm.MethodName)) ∈ aw_ws := aw_t2 (List.mem_of_getElem? (i := 191) (by decide +kernel)) rfl
theorem wd_2_192 : (Jvm.Cond.instanceMethod ({ cls := "AppendStore$Octets", name := "hasRoomFor", desc := "(I)Z" } : Jvm.MethodName)) ∈ aw_ws := aw_t2 (List.mem_of_getElem? (i := 192) (by decide +kernel)) rfl
theorem wd_2_193 : (Jvm.Cond.selects "AppendStore$Octets" ({ cls := "AppendStore$Octets", name := "hasRoomFor", desc := "(I)Z" } : Jvm.MethodName) ({ cls := "AppendStore$Octets", name := "hasRoomFor", desc := "(I)Z" } : Jvm.MethodName)) ∈ aw_ws := aw_t2 (List.mem_of_getElem? (i := 193) (by decide +kernel)) rfl
theorem wd_2_194 : (Jvm.Cond.code ({ cls := "AppendStore$Octets", name := "hasRoomFor", desc := "(I)Z" } : Jvm.MethodName) prog_6_method_4_code (2 : Nat) (Option.some Jvm.ClassFile.FieldType.boolean)) ∈ aw_ws := aw_t2 (List.mem_of_getElem? (i := 194) (by decide +kernel)) rfl
theorem wd_2_195 : (Jvm.Cond.methodLink "AppendStore$Shelf" (39 : Nat) ({ cls := "AppendStore$Shelf", name := "sealActive", desc := "()V" } : Jvm.MethodName)) ∈ aw_ws := aw_t2 (List.mem_of_getElem? (i := 195) (by decide +kernel)) rfl
theorem wd_2_196 : (Jvm.Cond.methodLink "AppendStore$Shelf" (42 : Nat) ({ cls := "AppendStore$StoreFile", name := "begin", desc := "(I)V" } : Jvm.MethodName)) ∈ aw_ws := aw_t2 (List.mem_of_getElem? (i := 196) (by decide +kernel)) rfl
theorem wd_2_197 : (Jvm.Cond.instanceMethod ({ cls := "AppendStore$StoreFile", name := "begin", desc := "(I)V" } : Jvm.MethodName)) ∈ aw_ws := aw_t2 (List.mem_of_getElem? (i := 197) (by decide +kernel)) rfl
theorem wd_2_198 : (Jvm.Cond.selects "AppendStore$StoreFile" ({ cls := "AppendStore$StoreFile", name := "begin", desc := "(I)V" } : Jvm.MethodName) ({ cls := "AppendStore$StoreFile", name := "begin", desc := "(I)V" } : Jvm.MethodName)) ∈ aw_ws := aw_t2 (List.mem_of_getElem? (i := 198) (by decide +kernel)) rfl
theorem wd_2_199 : (Jvm.Cond.code ({ cls := "AppendStore$StoreFile", name := "begin", desc := "(I)V" } : Jvm.MethodName) prog_9_method_2_code (2 : Nat) (Option.none : Option Jvm.ClassFile.FieldType)) ∈ aw_ws := aw_t2 (List.mem_of_getElem? (i := 199) (by decide +kernel)) rfl
theorem wd_2_200 : (Jvm.Cond.classLink "AppendStore" (74 : Nat) "java/lang/UnsupportedOperationException") ∈ aw_ws := aw_t2 (List.mem_of_getElem? (i := 200) (by decide +kernel)) rfl
theorem wd_2_216 : (Jvm.Cond.methodLink "AppendStore" (221 : Nat) ({ cls := "AppendStore$StoreFile", name := "append", desc := "(IJJI)LAppendStore$Rec;" } : Jvm.MethodName)) ∈ aw_ws := aw_t2 (List.mem_of_getElem? (i := 216) (by decide +kernel)) rfl
theorem wd_2_217 : (Jvm.Cond.instanceMethod ({ cls := "AppendStore$StoreFile", name := "append", desc := "(IJJI)LAppendStore$Rec;" } : Jvm.MethodName)) ∈ aw_ws := aw_t2 (List.mem_of_getElem? (i := 217) (by decide +kernel)) rfl
theorem wd_2_218 : (Jvm.Cond.selects "AppendStore$StoreFile" ({ cls := "AppendStore$StoreFile", name := "append", desc := "(IJJI)LAppendStore$Rec;" } : Jvm.MethodName) ({ cls := "AppendStore$StoreFile", name := "append", desc := "(IJJI)LAppendStore$Rec;" } : Jvm.MethodName)) ∈ aw_ws := aw_t2 (List.mem_of_getElem? (i := 218) (by decide +kernel)) rfl
theorem wd_2_219 : (Jvm.Cond.code ({ cls := "AppendStore$StoreFile", name := "append", desc := "(IJJI)LAppendStore$Rec;" } : Jvm.MethodName) prog_9_method_12_code (9 : Nat) (Option.some (Jvm.ClassFile.FieldType.object "AppendStore$Rec"))) ∈ aw_ws := aw_t2 (List.mem_of_getElem? (i := 219) (by decide +kernel)) rfl
theorem wd_2_220 : (Jvm.Cond.methodLink "AppendStore$StoreFile" (57 : Nat) ({ cls := "AppendStore$Key", name := "size", desc := "(J)I" } : Jvm.MethodName)) ∈ aw_ws := aw_t2 (List.mem_of_getElem? (i := 220) (by decide +kernel)) rfl
theorem wd_2_221 : (Jvm.Cond.methodLink "AppendStore$StoreFile" (62 : Nat) ({ cls := "AppendStore$Octets", name := "addNumber", desc := "(JI)V" } : Jvm.MethodName)) ∈ aw_ws := aw_t2 (List.mem_of_getElem? (i := 221) (by decide +kernel)) rfl
theorem wd_2_222 : (Jvm.Cond.instanceMethod ({ cls := "AppendStore$Octets", name := "addNumber", desc := "(JI)V" } : Jvm.MethodName)) ∈ aw_ws := aw_t2 (List.mem_of_getElem? (i := 222) (by decide +kernel)) rfl
theorem wd_2_223 : (Jvm.Cond.selects "AppendStore$Octets" ({ cls := "AppendStore$Octets", name := "addNumber", desc := "(JI)V" } : Jvm.MethodName) ({ cls := "AppendStore$Octets", name := "addNumber", desc := "(JI)V" } : Jvm.MethodName)) ∈ aw_ws := aw_t2 (List.mem_of_getElem? (i := 223) (by decide +kernel)) rfl
theorem wd_2_224 : (Jvm.Cond.code ({ cls := "AppendStore$Octets", name := "addNumber", desc := "(JI)V" } : Jvm.MethodName) prog_6_method_9_code (5 : Nat) (Option.none : Option Jvm.ClassFile.FieldType)) ∈ aw_ws := aw_t2 (List.mem_of_getElem? (i := 224) (by decide +kernel)) rfl
theorem wd_2_225 : (Jvm.Cond.methodLink "AppendStore$Octets" (21 : Nat) ({ cls := "AppendStore$Octets", name := "addByte", desc := "(I)V" } : Jvm.MethodName)) ∈ aw_ws := aw_t2 (List.mem_of_getElem? (i := 225) (by decide +kernel)) rfl
theorem wd_2_226 : (Jvm.Cond.instanceMethod ({ cls := "AppendStore$Octets", name := "addByte", desc := "(I)V" } : Jvm.MethodName)) ∈ aw_ws := aw_t2 (List.mem_of_getElem? (i := 226) (by decide +kernel)) rfl
theorem wd_2_227 : (Jvm.Cond.selects "AppendStore$Octets" ({ cls := "AppendStore$Octets", name := "addByte", desc := "(I)V" } : Jvm.MethodName) ({ cls := "AppendStore$Octets", name := "addByte", desc := "(I)V" } : Jvm.MethodName)) ∈ aw_ws := aw_t2 (List.mem_of_getElem? (i := 227) (by decide +kernel)) rfl
theorem wd_2_228 : (Jvm.Cond.code ({ cls := "AppendStore$Octets", name := "addByte", desc := "(I)V" } : Jvm.MethodName) prog_6_method_8_code (2 : Nat) (Option.none : Option Jvm.ClassFile.FieldType)) ∈ aw_ws := aw_t2 (List.mem_of_getElem? (i := 228) (by decide +kernel)) rfl
theorem wd_2_229 : (Jvm.Cond.methodLink "AppendStore$StoreFile" (66 : Nat) ({ cls := "AppendStore$Octets", name := "addByte", desc := "(I)V" } : Jvm.MethodName)) ∈ aw_ws := aw_t2 (List.mem_of_getElem? (i := 229) (by decide +kernel)) rfl
theorem wd_2_230 : (Jvm.Cond.methodLink "AppendStore$StoreFile" (69 : Nat) ({ cls := "AppendStore$Key", name := "number", desc := "(J)J" } : Jvm.MethodName)) ∈ aw_ws := aw_t2 (List.mem_of_getElem? (i := 230) (by decide +kernel)) rfl
theorem wd_2_231 : (Jvm.Cond.static ({ cls := "AppendStore$Key", name := "number", desc := "(J)J" } : Jvm.MethodName)) ∈ aw_ws := aw_t2 (List.mem_of_getElem? (i := 231) (by decide +kernel)) rfl
theorem wd_2_232 : (Jvm.Cond.code ({ cls := "AppendStore$Key", name := "number", desc := "(J)J" } : Jvm.MethodName) prog_3_method_4_code (2 : Nat) (Option.some Jvm.ClassFile.FieldType.long)) ∈ aw_ws := aw_t2 (List.mem_of_getElem? (i := 232) (by decide +kernel)) rfl
theorem wd_2_233 : (Jvm.Cond.methodLink "AppendStore$Key" (15 : Nat) ({ cls := "AppendStore$Key", name := "size", desc := "(J)I" } : Jvm.MethodName)) ∈ aw_ws := aw_t2 (List.mem_of_getElem? (i := 233) (by decide +kernel)) rfl
theorem wd_2_234 : (Jvm.Cond.methodLink "AppendStore$StoreFile" (72 : Nat) ({ cls := "AppendStore$Layout", name := "valueBytes", desc := "(I)I" } : Jvm.MethodName)) ∈ aw_ws := aw_t2 (List.mem_of_getElem? (i := 234) (by decide +kernel)) rfl
theorem wd_2_235 : (Jvm.Cond.methodLink "AppendStore$StoreFile" (80 : Nat) ({ cls := "AppendStore$Octets", name := "setSum", desc := "(IJ)V" } : Jvm.MethodName)) ∈ aw_ws := aw_t2 (List.mem_of_getElem? (i := 235) (by decide +kernel)) rfl
theorem wd_2_236 : (Jvm.Cond.instanceMethod ({ cls := "AppendStore$Octets", name := "setSum", desc := "(IJ)V" } : Jvm.MethodName)) ∈ aw_ws := aw_t2 (List.mem_of_getElem? (i := 236) (by decide +kernel)) rfl
theorem wd_2_237 : (Jvm.Cond.selects "AppendStore$Octets" ({ cls := "AppendStore$Octets", name := "setSum", desc := "(IJ)V" } : Jvm.MethodName) ({ cls := "AppendStore$Octets", name := "setSum", desc := "(IJ)V" } : Jvm.MethodName)) ∈ aw_ws := aw_t2 (List.mem_of_getElem? (i := 237) (by decide +kernel)) rfl
theorem wd_2_238 : (Jvm.Cond.code ({ cls := "AppendStore$Octets", name := "setSum", desc := "(IJ)V" } : Jvm.MethodName) prog_6_method_12_code (5 : Nat) (Option.none : Option Jvm.ClassFile.FieldType)) ∈ aw_ws := aw_t2 (List.mem_of_getElem? (i := 238) (by decide +kernel)) rfl
theorem wd_2_239 : (Jvm.Cond.methodLink "AppendStore$Octets" (31 : Nat) ({ cls := "AppendStore$Octets", name := "set", desc := "(II)V" } : Jvm.MethodName)) ∈ aw_ws := aw_t2 (List.mem_of_getElem? (i := 239) (by decide +kernel)) rfl
theorem wd_3_0 : (Jvm.Cond.instanceMethod ({ cls := "AppendStore$Octets", name := "set", desc := "(II)V" } : Jvm.MethodName)) ∈ aw_ws := aw_t3 (List.mem_of_getElem? (i := 0) (by decide +kernel)) rfl
theorem wd_3_1 : (Jvm.Cond.selects "AppendStore$Octets" ({ cls := "AppendStore$Octets", name := "set", desc := "(II)V" } : Jvm.MethodName) ({ cls := "AppendStore$Octets", name := "set", desc := "(II)V" } : Jvm.MethodName)) ∈ aw_ws := aw_t3 (List.mem_of_getElem? (i := 1) (by decide +kernel)) rfl
theorem wd_3_2 : (Jvm.Cond.code ({ cls := "AppendStore$Octets", name := "set", desc := "(II)V" } : Jvm.MethodName) prog_6_method_6_code (3 : Nat) (Option.none : Option Jvm.ClassFile.FieldType)) ∈ aw_ws := aw_t3 (List.mem_of_getElem? (i := 2) (by decide +kernel)) rfl
theorem wd_3_3 : (Jvm.Cond.methodLink "AppendStore$Octets" (17 : Nat) ({ cls := "AppendStore$Octets", name := "has", desc := "(I)Z" } : Jvm.MethodName)) ∈ aw_ws := aw_t3 (List.mem_of_getElem? (i := 3) (by decide +kernel)) rfl
theorem wd_3_4 : (Jvm.Cond.instanceMethod ({ cls := "AppendStore$Octets", name := "has", desc := "(I)Z" } : Jvm.MethodName)) ∈ aw_ws := aw_t3 (List.mem_of_getElem? (i := 4) (by decide +kernel)) rfl
theorem wd_3_5 : (Jvm.Cond.selects "AppendStore$Octets" ({ cls := "AppendStore$Octets", name := "has", desc := "(I)Z" } : Jvm.MethodName) ({ cls := "AppendStore$Octets", name := "has", desc := "(I)Z" } : Jvm.MethodName)) ∈ aw_ws := aw_t3 (List.mem_of_getElem? (i := 5) (by decide +kernel)) rfl
theorem wd_3_6 : (Jvm.Cond.code ({ cls := "AppendStore$Octets", name := "has", desc := "(I)Z" } : Jvm.MethodName) prog_6_method_3_code (2 : Nat) (Option.some Jvm.ClassFile.FieldType.boolean)) ∈ aw_ws := aw_t3 (List.mem_of_getElem? (i := 6) (by decide +kernel)) rfl
theorem wd_3_7 : (Jvm.Cond.constant "AppendStore" (227 : Nat) (65535 : Int32)) ∈ aw_ws := aw_t3 (List.mem_of_getElem? (i := 7) (by decide +kernel)) rfl
theorem wd_3_15 : (Jvm.Cond.methodLink "AppendStore" (57 : Nat) ({ cls := "AppendStore$Directory", name := "find", desc := "(J)LAppendStore$Rec;" } : Jvm.MethodName)) ∈ aw_ws := aw_t3 (List.mem_of_getElem? (i := 15) (by decide +kernel)) rfl
theorem wd_3_16 : (Jvm.Cond.instanceMethod ({ cls := "AppendStore$Directory", name := "find", desc := "(J)LAppendStore$Rec;" } : Jvm.MethodName)) ∈ aw_ws := aw_t3 (List.mem_of_getElem? (i := 16) (by decide +kernel)) rfl
theorem wd_3_17 : (Jvm.Cond.selects "AppendStore$Directory" ({ cls := "AppendStore$Directory", name := "find", desc := "(J)LAppendStore$Rec;" } : Jvm.MethodName) ({ cls := "AppendStore$Directory", name := "find", desc := "(J)LAppendStore$Rec;" } : Jvm.MethodName)) ∈ aw_ws := aw_t3 (List.mem_of_getElem? (i := 17) (by decide +kernel)) rfl
theorem wd_3_18 : (Jvm.Cond.code ({ cls := "AppendStore$Directory", name := "find", desc := "(J)LAppendStore$Rec;" } : Jvm.MethodName) prog_2_method_5_code (4 : Nat) (Option.some (Jvm.ClassFile.FieldType.object "AppendStore$Rec"))) ∈ aw_ws := aw_t3 (List.mem_of_getElem? (i := 18) (by decide +kernel)) rfl
theorem wd_3_27 : (Jvm.Cond.classLink "AppendStore" (61 : Nat) "java/util/NoSuchElementException") ∈ aw_ws := aw_t3 (List.mem_of_getElem? (i := 27) (by decide +kernel)) rfl
theorem wd_3_43 : (Jvm.Cond.methodLink "AppendStore" (68 : Nat) ({ cls := "AppendStore$Rec", name := "isBroken", desc := "()Z" } : Jvm.MethodName)) ∈ aw_ws := aw_t3 (List.mem_of_getElem? (i := 43) (by decide +kernel)) rfl
theorem wd_3_44 : (Jvm.Cond.instanceMethod ({ cls := "AppendStore$Rec", name := "isBroken", desc := "()Z" } : Jvm.MethodName)) ∈ aw_ws := aw_t3 (List.mem_of_getElem? (i := 44) (by decide +kernel)) rfl
theorem wd_3_45 : (Jvm.Cond.selects "AppendStore$Rec" ({ cls := "AppendStore$Rec", name := "isBroken", desc := "()Z" } : Jvm.MethodName) ({ cls := "AppendStore$Rec", name := "isBroken", desc := "()Z" } : Jvm.MethodName)) ∈ aw_ws := aw_t3 (List.mem_of_getElem? (i := 45) (by decide +kernel)) rfl
theorem wd_3_46 : (Jvm.Cond.code ({ cls := "AppendStore$Rec", name := "isBroken", desc := "()Z" } : Jvm.MethodName) prog_7_method_6_code (1 : Nat) (Option.some Jvm.ClassFile.FieldType.boolean)) ∈ aw_ws := aw_t3 (List.mem_of_getElem? (i := 46) (by decide +kernel)) rfl
theorem wd_3_47 : (Jvm.Cond.methodLink "AppendStore$Rec" (45 : Nat) ({ cls := "AppendStore$Rec", name := "size", desc := "()I" } : Jvm.MethodName)) ∈ aw_ws := aw_t3 (List.mem_of_getElem? (i := 47) (by decide +kernel)) rfl
theorem wd_3_48 : (Jvm.Cond.instanceMethod ({ cls := "AppendStore$Rec", name := "size", desc := "()I" } : Jvm.MethodName)) ∈ aw_ws := aw_t3 (List.mem_of_getElem? (i := 48) (by decide +kernel)) rfl
theorem wd_3_49 : (Jvm.Cond.selects "AppendStore$Rec" ({ cls := "AppendStore$Rec", name := "size", desc := "()I" } : Jvm.MethodName) ({ cls := "AppendStore$Rec", name := "size", desc := "()I" } : Jvm.MethodName)) ∈ aw_ws := aw_t3 (List.mem_of_getElem? (i := 49) (by decide +kernel)) rfl
theorem wd_3_50 : (Jvm.Cond.code ({ cls := "AppendStore$Rec", name := "size", desc := "()I" } : Jvm.MethodName) prog_7_method_4_code (1 : Nat) (Option.some Jvm.ClassFile.FieldType.int)) ∈ aw_ws := aw_t3 (List.mem_of_getElem? (i := 50) (by decide +kernel)) rfl
theorem wd_3_51 : (Jvm.Cond.methodLink "AppendStore$Rec" (25 : Nat) ({ cls := "AppendStore$Rec", name := "keySize", desc := "()I" } : Jvm.MethodName)) ∈ aw_ws := aw_t3 (List.mem_of_getElem? (i := 51) (by decide +kernel)) rfl
theorem wd_3_52 : (Jvm.Cond.instanceMethod ({ cls := "AppendStore$Rec", name := "keySize", desc := "()I" } : Jvm.MethodName)) ∈ aw_ws := aw_t3 (List.mem_of_getElem? (i := 52) (by decide +kernel)) rfl
theorem wd_3_53 : (Jvm.Cond.selects "AppendStore$Rec" ({ cls := "AppendStore$Rec", name := "keySize", desc := "()I" } : Jvm.MethodName) ({ cls := "AppendStore$Rec", name := "keySize", desc := "()I" } : Jvm.MethodName)) ∈ aw_ws := aw_t3 (List.mem_of_getElem? (i := 53) (by decide +kernel)) rfl
theorem wd_3_54 : (Jvm.Cond.code ({ cls := "AppendStore$Rec", name := "keySize", desc := "()I" } : Jvm.MethodName) prog_7_method_3_code (1 : Nat) (Option.some Jvm.ClassFile.FieldType.int)) ∈ aw_ws := aw_t3 (List.mem_of_getElem? (i := 54) (by decide +kernel)) rfl
theorem wd_3_55 : (Jvm.Cond.methodLink "AppendStore$Rec" (19 : Nat) ({ cls := "AppendStore$Key", name := "size", desc := "(J)I" } : Jvm.MethodName)) ∈ aw_ws := aw_t3 (List.mem_of_getElem? (i := 55) (by decide +kernel)) rfl
theorem wd_3_56 : (Jvm.Cond.methodLink "AppendStore$Rec" (29 : Nat) ({ cls := "AppendStore$Layout", name := "recordBytes", desc := "(II)I" } : Jvm.MethodName)) ∈ aw_ws := aw_t3 (List.mem_of_getElem? (i := 56) (by decide +kernel)) rfl
theorem wd_3_57 : (Jvm.Cond.methodLink "AppendStore$Rec" (47 : Nat) ({ cls := "AppendStore$StoreFile", name := "hasRightSum", desc := "(II)Z" } : Jvm.MethodName)) ∈ aw_ws := aw_t3 (List.mem_of_getElem? (i := 57) (by decide +kernel)) rfl
theorem wd_3_59 : (Jvm.Cond.methodLink "AppendStore" (79 : Nat) ({ cls := "AppendStore$Rec", name := "value", desc := "()J" } : Jvm.MethodName)) ∈ aw_ws := aw_t3 (List.mem_of_getElem? (i := 59) (by decide +kernel)) rfl
theorem wd_3_60 : (Jvm.Cond.instanceMethod ({ cls := "AppendStore$Rec", name := "value", desc := "()J" } : Jvm.MethodName)) ∈ aw_ws := aw_t3 (List.mem_of_getElem? (i := 60) (by decide +kernel)) rfl
theorem wd_3_61 : (Jvm.Cond.selects "AppendStore$Rec" ({ cls := "AppendStore$Rec", name := "value", desc := "()J" } : Jvm.MethodName) ({ cls := "AppendStore$Rec", name := "value", desc := "()J" } : Jvm.MethodName)) ∈ aw_ws := aw_t3 (List.mem_of_getElem? (i := 61) (by decide +kernel)) rfl
theorem wd_3_62 : (Jvm.Cond.code ({ cls := "AppendStore$Rec", name := "value", desc := "()J" } : Jvm.MethodName) prog_7_method_7_code (1 : Nat) (Option.some Jvm.ClassFile.FieldType.long)) ∈ aw_ws := aw_t3 (List.mem_of_getElem? (i := 62) (by decide +kernel)) rfl
theorem wd_3_63 : (Jvm.Cond.methodLink "AppendStore$Rec" (51 : Nat) ({ cls := "AppendStore$StoreFile", name := "bytes", desc := "()LAppendStore$Octets;" } : Jvm.MethodName)) ∈ aw_ws := aw_t3 (List.mem_of_getElem? (i := 63) (by decide +kernel)) rfl
theorem wd_3_64 : (Jvm.Cond.methodLink "AppendStore$Rec" (55 : Nat) ({ cls := "AppendStore$Layout", name := "valueBytes", desc := "(I)I" } : Jvm.MethodName)) ∈ aw_ws := aw_t3 (List.mem_of_getElem? (i := 64) (by decide +kernel)) rfl
theorem wd_3_65 : (Jvm.Cond.methodLink "AppendStore$Rec" (59 : Nat) ({ cls := "AppendStore$Octets", name := "number", desc := "(II)J" } : Jvm.MethodName)) ∈ aw_ws := aw_t3 (List.mem_of_getElem? (i := 65) (by decide +kernel)) rfl
theorem wd_3_80 : (Jvm.Cond.methodLink "AppendStore" (87 : Nat) ({ cls := "AppendStore$Directory", name := "at", desc := "(I)LAppendStore$Rec;" } : Jvm.MethodName)) ∈ aw_ws := aw_t3 (List.mem_of_getElem? (i := 80) (by decide +kernel)) rfl
theorem wd_3_82 : (Jvm.Cond.methodLink "AppendStore" (100 : Nat) ({ cls := "AppendStore$Key", name := "number", desc := "(J)J" } : Jvm.MethodName)) ∈ aw_ws := aw_t3 (List.mem_of_getElem? (i := 82) (by decide +kernel)) rfl
theorem wd_3_83 : (Jvm.Cond.methodLink "AppendStore" (104 : Nat) ({ cls := "AppendStore$Rec", name := "fileNumber", desc := "()I" } : Jvm.MethodName)) ∈ aw_ws := aw_t3 (List.mem_of_getElem? (i := 83) (by decide +kernel)) rfl
theorem wd_3_84 : (Jvm.Cond.instanceMethod ({ cls := "AppendStore$Rec", name := "fileNumber", desc := "()I" } : Jvm.MethodName)) ∈ aw_ws := aw_t3 (List.mem_of_getElem? (i := 84) (by decide +kernel)) rfl
theorem wd_3_85 : (Jvm.Cond.selects "AppendStore$Rec" ({ cls := "AppendStore$Rec", name := "fileNumber", desc := "()I" } : Jvm.MethodName) ({ cls := "AppendStore$Rec", name := "fileNumber", desc := "()I" } : Jvm.MethodName)) ∈ aw_ws := aw_t3 (List.mem_of_getElem? (i := 85) (by decide +kernel)) rfl
theorem wd_3_86 : (Jvm.Cond.code ({ cls := "AppendStore$Rec", name := "fileNumber", desc := "()I" } : Jvm.MethodName) prog_7_method_5_code (1 : Nat) (Option.some Jvm.ClassFile.FieldType.int)) ∈ aw_ws := aw_t3 (List.mem_of_getElem? (i := 86) (by decide +kernel)) rfl
theorem wd_3_87 : (Jvm.Cond.methodLink "AppendStore$Rec" (37 : Nat) ({ cls := "AppendStore$StoreFile", name := "number", desc := "()I" } : Jvm.MethodName)) ∈ aw_ws := aw_t3 (List.mem_of_getElem? (i := 87) (by decide +kernel)) rfl
theorem wd_3_88 : (Jvm.Cond.instanceMethod ({ cls := "AppendStore$StoreFile", name := "number", desc := "()I" } : Jvm.MethodName)) ∈ aw_ws := aw_t3 (List.mem_of_getElem? (i := 88) (by decide +kernel)) rfl
theorem wd_3_89 : (Jvm.Cond.selects "AppendStore$StoreFile" ({ cls := "AppendStore$StoreFile", name := "number", desc := "()I" } : Jvm.MethodName) ({ cls := "AppendStore$StoreFile", name := "number", desc := "()I" } : Jvm.MethodName)) ∈ aw_ws := aw_t3 (List.mem_of_getElem? (i := 89) (by decide +kernel)) rfl
theorem wd_3_90 : (Jvm.Cond.code ({ cls := "AppendStore$StoreFile", name := "number", desc := "()I" } : Jvm.MethodName) prog_9_method_3_code (1 : Nat) (Option.some Jvm.ClassFile.FieldType.int)) ∈ aw_ws := aw_t3 (List.mem_of_getElem? (i := 90) (by decide +kernel)) rfl
theorem wd_3_98 : (Jvm.Cond.methodLink "AppendStore" (110 : Nat) ({ cls := "AppendStore$Shelf", name := "syncActive", desc := "()V" } : Jvm.MethodName)) ∈ aw_ws := aw_t3 (List.mem_of_getElem? (i := 98) (by decide +kernel)) rfl
theorem wd_3_106 : (Jvm.Cond.methodLink "AppendStore" (113 : Nat) ({ cls := "AppendStore$Shelf", name := "losePower", desc := "(I)V" } : Jvm.MethodName)) ∈ aw_ws := aw_t3 (List.mem_of_getElem? (i := 106) (by decide +kernel)) rfl
theorem wd_3_107 : (Jvm.Cond.instanceMethod ({ cls := "AppendStore$Shelf", name := "losePower", desc := "(I)V" } : Jvm.MethodName)) ∈ aw_ws := aw_t3 (List.mem_of_getElem? (i := 107) (by decide +kernel)) rfl
theorem wd_3_108 : (Jvm.Cond.selects "AppendStore$Shelf" ({ cls := "AppendStore$Shelf", name := "losePower", desc := "(I)V" } : Jvm.MethodName) ({ cls := "AppendStore$Shelf", name := "losePower", desc := "(I)V" } : Jvm.MethodName)) ∈ aw_ws := aw_t3 (List.mem_of_getElem? (i := 108) (by decide +kernel)) rfl
theorem wd_3_109 : (Jvm.Cond.code ({ cls := "AppendStore$Shelf", name := "losePower", desc := "(I)V" } : Jvm.MethodName) prog_8_method_8_code (2 : Nat) (Option.none : Option Jvm.ClassFile.FieldType)) ∈ aw_ws := aw_t3 (List.mem_of_getElem? (i := 109) (by decide +kernel)) rfl
theorem wd_3_110 : (Jvm.Cond.methodLink "AppendStore$Shelf" (52 : Nat) ({ cls := "AppendStore$StoreFile", name := "losePower", desc := "(I)V" } : Jvm.MethodName)) ∈ aw_ws := aw_t3 (List.mem_of_getElem? (i := 110) (by decide +kernel)) rfl
theorem wd_3_111 : (Jvm.Cond.instanceMethod ({ cls := "AppendStore$StoreFile", name := "losePower", desc := "(I)V" } : Jvm.MethodName)) ∈ aw_ws := aw_t3 (List.mem_of_getElem? (i := 111) (by decide +kernel)) rfl
theorem wd_3_112 : (Jvm.Cond.selects "AppendStore$StoreFile" ({ cls := "AppendStore$StoreFile", name := "losePower", desc := "(I)V" } : Jvm.MethodName) ({ cls := "AppendStore$StoreFile", name := "losePower", desc := "(I)V" } : Jvm.MethodName)) ∈ aw_ws := aw_t3 (List.mem_of_getElem? (i := 112) (by decide +kernel)) rfl
theorem wd_3_113 : (Jvm.Cond.code ({ cls := "AppendStore$StoreFile", name := "losePower", desc := "(I)V" } : Jvm.MethodName) prog_9_method_10_code (2 : Nat) (Option.none : Option Jvm.ClassFile.FieldType)) ∈ aw_ws := aw_t3 (List.mem_of_getElem? (i := 113) (by decide +kernel)) rfl
theorem wd_3_121 : (Jvm.Cond.methodLink "AppendStore" (140 : Nat) ({ cls := "AppendStore$Merger", name := "goesOn", desc := "()Z" } : Jvm.MethodName)) ∈ aw_ws := aw_t3 (List.mem_of_getElem? (i := 121) (by decide +kernel)) rfl
theorem wd_3_122 : (Jvm.Cond.instanceMethod ({ cls := "AppendStore$Merger", name := "goesOn", desc := "()Z" } : Jvm.MethodName)) ∈ aw_ws := aw_t3 (List.mem_of_getElem? (i := 122) (by decide +kernel)) rfl
theorem wd_3_123 : (Jvm.Cond.selects "AppendStore$Merger" ({ cls := "AppendStore$Merger", name := "goesOn", desc := "()Z" } : Jvm.MethodName) ({ cls := "AppendStore$Merger", name := "goesOn", desc := "()Z" } : Jvm.MethodName)) ∈ aw_ws := aw_t3 (List.mem_of_getElem? (i := 123) (by decide +kernel)) rfl
theorem wd_3_124 : (Jvm.Cond.code ({ cls := "AppendStore$Merger", name := "goesOn", desc := "()Z" } : Jvm.MethodName) prog_5_method_2_code (1 : Nat) (Option.some Jvm.ClassFile.FieldType.boolean)) ∈ aw_ws := aw_t3 (List.mem_of_getElem? (i := 124) (by decide +kernel)) rfl
theorem wd_3_125 : (Jvm.Cond.methodLink "AppendStore" (143 : Nat) ({ cls := "AppendStore$Shelf", name := "sealedCount", desc := "()I" } : Jvm.MethodName)) ∈ aw_ws := aw_t3 (List.mem_of_getElem? (i := 125) (by decide +kernel)) rfl
theorem wd_3_126 : (Jvm.Cond.instanceMethod ({ cls := "AppendStore$Shelf", name := "sealedCount", desc := "()I" } : Jvm.MethodName)) ∈ aw_ws := aw_t3 (List.mem_of_getElem? (i := 126) (by decide +kernel)) rfl
theorem wd_3_127 : (Jvm.Cond.selects "AppendStore$Shelf" ({ cls := "AppendStore$Shelf", name := "sealedCount", desc := "()I" } : Jvm.MethodName) ({ cls := "AppendStore$Shelf", name := "sealedCount", desc := "()I" } : Jvm.MethodName)) ∈ aw_ws := aw_t3 (List.mem_of_getElem? (i := 127) (by decide +kernel)) rfl
theorem wd_3_128 : (Jvm.Cond.code ({ cls := "AppendStore$Shelf", name := "sealedCount", desc := "()I" } : Jvm.MethodName) prog_8_method_4_code (1 : Nat) (Option.some Jvm.ClassFile.FieldType.int)) ∈ aw_ws := aw_t3 (List.mem_of_getElem? (i := 128) (by decide +kernel)) rfl
theorem wd_3_130 : (Jvm.Cond.methodLink "AppendStore" (151 : Nat) ({ cls := "AppendStore$Merger", name := "begin", desc := "(I)V" } : Jvm.MethodName)) ∈ aw_ws := aw_t3 (List.mem_of_getElem? (i := 130) (by decide +kernel)) rfl
theorem wd_3_131 : (Jvm.Cond.instanceMethod ({ cls := "AppendStore$Merger", name := "begin", desc := "(I)V" } : Jvm.MethodName)) ∈ aw_ws := aw_t3 (List.mem_of_getElem? (i := 131) (by decide +kernel)) rfl
theorem wd_3_132 : (Jvm.Cond.selects "AppendStore$Merger" ({ cls := "AppendStore$Merger", name := "begin", desc := "(I)V" } : Jvm.MethodName) ({ cls := "AppendStore$Merger", name := "begin", desc := "(I)V" } : Jvm.MethodName)) ∈ aw_ws := aw_t3 (List.mem_of_getElem? (i := 132) (by decide +kernel)) rfl
theorem wd_3_133 : (Jvm.Cond.code ({ cls := "AppendStore$Merger", name := "begin", desc := "(I)V" } : Jvm.MethodName) prog_5_method_3_code (2 : Nat) (Option.none : Option Jvm.ClassFile.FieldType)) ∈ aw_ws := aw_t3 (List.mem_of_getElem? (i := 133) (by decide +kernel)) rfl
theorem wd_3_134 : (Jvm.Cond.methodLink "AppendStore" (154 : Nat) ({ cls := "AppendStore$Merger", name := "advance", desc := "(ILAppendStore$Shelf;LAppendStore$Directory;)V" } : Jvm.MethodName)) ∈ aw_ws := aw_t3 (List.mem_of_getElem? (i := 134) (by decide +kernel)) rfl
theorem wd_3_135 : (Jvm.Cond.instanceMethod ({ cls := "AppendStore$Merger", name := "advance", desc := "(ILAppendStore$Shelf;LAppendStore$Directory;)V" } : Jvm.MethodName)) ∈ aw_ws := aw_t3 (List.mem_of_getElem? (i := 135) (by decide +kernel)) rfl
theorem wd_3_136 : (Jvm.Cond.selects "AppendStore$Merger" ({ cls := "AppendStore$Merger", name := "advance", desc := "(ILAppendStore$Shelf;LAppendStore$Directory;)V" } : Jvm.MethodName) ({ cls := "AppendStore$Merger", name := "advance", desc := "(ILAppendStore$Shelf;LAppendStore$Directory;)V" } : Jvm.MethodName)) ∈ aw_ws := aw_t3 (List.mem_of_getElem? (i := 136) (by decide +kernel)) rfl
theorem wd_3_137 : (Jvm.Cond.code ({ cls := "AppendStore$Merger", name := "advance", desc := "(ILAppendStore$Shelf;LAppendStore$Directory;)V" } : Jvm.MethodName) prog_5_method_5_code (7 : Nat) (Option.none : Option Jvm.ClassFile.FieldType)) ∈ aw_ws := aw_t3 (List.mem_of_getElem? (i := 137) (by decide +kernel)) rfl
theorem wd_3_138 : (Jvm.Cond.methodLink "AppendStore$Merger" (31 : Nat) ({ cls := "AppendStore$Merger", name := "cameToAll", desc := "(LAppendStore$Shelf;)Z" } : Jvm.MethodName)) ∈ aw_ws := aw_t3 (List.mem_of_getElem? (i := 138) (by decide +kernel)) rfl
theorem wd_3_139 : (Jvm.Cond.instanceMethod ({ cls := "AppendStore$Merger", name := "cameToAll", desc := "(LAppendStore$Shelf;)Z" } : Jvm.MethodName)) ∈ aw_ws := aw_t3 (List.mem_of_getElem? (i := 139) (by decide +kernel)) rfl
theorem wd_3_140 : (Jvm.Cond.selects "AppendStore$Merger" ({ cls := "AppendStore$Merger", name := "cameToAll", desc := "(LAppendStore$Shelf;)Z" } : Jvm.MethodName) ({ cls := "AppendStore$Merger", name := "cameToAll", desc := "(LAppendStore$Shelf;)Z" } : Jvm.MethodName)) ∈ aw_ws := aw_t3 (List.mem_of_getElem? (i := 140) (by decide +kernel)) rfl
theorem wd_3_141 : (Jvm.Cond.code ({ cls := "AppendStore$Merger", name := "cameToAll", desc := "(LAppendStore$Shelf;)Z" } : Jvm.MethodName) prog_5_method_6_code (3 : Nat) (Option.some Jvm.ClassFile.FieldType.boolean)) ∈ aw_ws := aw_t3 (List.mem_of_getElem? (i := 141) (by decide +kernel)) rfl
theorem wd_3_142 : (Jvm.Cond.methodLink "AppendStore$Merger" (35 : Nat) ({ cls := "AppendStore$Shelf", name := "at", desc := "(I)LAppendStore$StoreFile;" } : Jvm.MethodName)) ∈ aw_ws := aw_t3 (List.mem_of_getElem? (i := 142) (by decide +kernel)) rfl
theorem wd_3_143 : (Jvm.Cond.methodLink "AppendStore$Merger" (64 : Nat) ({ cls := "AppendStore$StoreFile", name := "recordCount", desc := "()I" } : Jvm.MethodName)) ∈ aw_ws := aw_t3 (List.mem_of_getElem? (i := 143) (by decide +kernel)) rfl
theorem wd_3_144 : (Jvm.Cond.methodLink "AppendStore$Merger" (41 : Nat) ({ cls := "AppendStore$StoreFile", name := "record", desc := "(I)LAppendStore$Rec;" } : Jvm.MethodName)) ∈ aw_ws := aw_t3 (List.mem_of_getElem? (i := 144) (by decide +kernel)) rfl
theorem wd_3_145 : (Jvm.Cond.methodLink "AppendStore$Merger" (45 : Nat) ({ cls := "AppendStore$Directory", name := "has", desc := "(LAppendStore$Rec;)Z" } : Jvm.MethodName)) ∈ aw_ws := aw_t3 (List.mem_of_getElem? (i := 145) (by decide +kernel)) rfl
theorem wd_3_146 : (Jvm.Cond.instanceMethod ({ cls := "AppendStore$Directory", name := "has", desc := "(LAppendStore$Rec;)Z" } : Jvm.MethodName)) ∈ aw_ws := aw_t3 (List.mem_of_getElem? (i := 146) (by decide +kernel)) rfl
theorem wd_3_147 : (Jvm.Cond.selects "AppendStore$Directory" ({ cls := "AppendStore$Directory", name := "has", desc := "(LAppendStore$Rec;)Z" } : Jvm.MethodName) ({ cls := "AppendStore$Directory", name := "has", desc := "(LAppendStore$Rec;)Z" } : Jvm.MethodName)) ∈ aw_ws := aw_t3 (List.mem_of_getElem? (i := 147) (by decide +kernel)) rfl
theorem wd_3_148 : (Jvm.Cond.code ({ cls := "AppendStore$Directory", name := "has", desc := "(LAppendStore$Rec;)Z" } : Jvm.MethodName) prog_2_method_6_code (2 : Nat) (Option.some Jvm.ClassFile.FieldType.boolean)) ∈ aw_ws := aw_t3 (List.mem_of_getElem? (i := 148) (by decide +kernel)) rfl
theorem wd_3_149 : (Jvm.Cond.methodLink "AppendStore$Directory" (35 : Nat) ({ cls := "AppendStore$Directory", name := "find", desc := "(J)LAppendStore$Rec;" } : Jvm.MethodName)) ∈ aw_ws := aw_t3 (List.mem_of_getElem? (i := 149) (by decide +kernel)) rfl
theorem wd_3_150 : (Jvm.Cond.methodLink "AppendStore$Merger" (51 : Nat) ({ cls := "AppendStore$Rec", name := "size", desc := "()I" } : Jvm.MethodName)) ∈ aw_ws := aw_t3 (List.mem_of_getElem? (i := 150) (by decide +kernel)) rfl
theorem wd_3_151 : (Jvm.Cond.methodLink "AppendStore$Merger" (57 : Nat) ({ cls := "AppendStore$Merger", name := "outputFor", desc := "(I)LAppendStore$StoreFile;" } : Jvm.MethodName)) ∈ aw_ws := aw_t3 (List.mem_of_getElem? (i := 151) (by decide +kernel)) rfl
theorem wd_3_153 : (Jvm.Cond.instanceMethod ({ cls := "AppendStore$Merger", name := "outputFor", desc := "(I)LAppendStore$StoreFile;" } : Jvm.MethodName)) ∈ aw_ws := aw_t3 (List.mem_of_getElem? (i := 153) (by decide +kernel)) rfl
theorem wd_3_154 : (Jvm.Cond.code ({ cls := "AppendStore$Merger", name := "outputFor", desc := "(I)LAppendStore$StoreFile;" } : Jvm.MethodName) prog_5_method_9_code (3 : Nat) (Option.some (Jvm.ClassFile.FieldType.object "AppendStore$StoreFile"))) ∈ aw_ws := aw_t3 (List.mem_of_getElem? (i := 154) (by decide +kernel)) rfl
theorem wd_3_155 : (Jvm.Cond.methodLink "AppendStore$Merger" (96 : Nat) ({ cls := "AppendStore$StoreFile", name := "bytes", desc := "()LAppendStore$Octets;" } : Jvm.MethodName)) ∈ aw_ws := aw_t3 (List.mem_of_getElem? (i := 155) (by decide +kernel)) rfl
theorem wd_3_156 : (Jvm.Cond.methodLink "AppendStore$Merger" (100 : Nat) ({ cls := "AppendStore$Octets", name := "hasRoomFor", desc := "(I)Z" } : Jvm.MethodName)) ∈ aw_ws := aw_t3 (List.mem_of_getElem? (i := 156) (by decide +kernel)) rfl
theorem wd_3_157 : (Jvm.Cond.methodLink "AppendStore$Merger" (106 : Nat) ({ cls := "AppendStore$StoreFile", name := "begin", desc := "(I)V" } : Jvm.MethodName)) ∈ aw_ws := aw_t3 (List.mem_of_getElem? (i := 157) (by decide +kernel)) rfl
theorem wd_3_158 : (Jvm.Cond.methodLink "AppendStore$Merger" (60 : Nat) ({ cls := "AppendStore$StoreFile", name := "appendCopy", desc := "(LAppendStore$Rec;)V" } : Jvm.MethodName)) ∈ aw_ws := aw_t3 (List.mem_of_getElem? (i := 158) (by decide +kernel)) rfl
theorem wd_3_159 : (Jvm.Cond.instanceMethod ({ cls := "AppendStore$StoreFile", name := "appendCopy", desc := "(LAppendStore$Rec;)V" } : Jvm.MethodName)) ∈ aw_ws := aw_t3 (List.mem_of_getElem? (i := 159) (by decide +kernel)) rfl
theorem wd_3_160 : (Jvm.Cond.selects "AppendStore$StoreFile" ({ cls := "AppendStore$StoreFile", name := "appendCopy", desc := "(LAppendStore$Rec;)V" } : Jvm.MethodName) ({ cls := "AppendStore$StoreFile", name := "appendCopy", desc := "(LAppendStore$Rec;)V" } : Jvm.MethodName)) ∈ aw_ws := aw_t3 (List.mem_of_getElem? (i := 160) (by decide +kernel)) rfl
theorem wd_3_161 : (Jvm.Cond.code ({ cls := "AppendStore$StoreFile", name := "appendCopy", desc := "(LAppendStore$Rec;)V" } : Jvm.MethodName) prog_9_method_13_code (3 : Nat) (Option.none : Option Jvm.ClassFile.FieldType)) ∈ aw_ws := aw_t3 (List.mem_of_getElem? (i := 161) (by decide +kernel)) rfl
theorem wd_3_162 : (Jvm.Cond.methodLink "AppendStore$StoreFile" (88 : Nat) ({ cls := "AppendStore$Rec", name := "addBytesTo", desc := "(LAppendStore$Octets;)V" } : Jvm.MethodName)) ∈ aw_ws := aw_t3 (List.mem_of_getElem? (i := 162) (by decide +kernel)) rfl
theorem wd_3_163 : (Jvm.Cond.instanceMethod ({ cls := "AppendStore$Rec", name := "addBytesTo", desc := "(LAppendStore$Octets;)V" } : Jvm.MethodName)) ∈ aw_ws := aw_t3 (List.mem_of_getElem? (i := 163) (by decide +kernel)) rfl
theorem wd_3_164 : (Jvm.Cond.selects "AppendStore$Rec" ({ cls := "AppendStore$Rec", name := "addBytesTo", desc := "(LAppendStore$Octets;)V" } : Jvm.MethodName) ({ cls := "AppendStore$Rec", name := "addBytesTo", desc := "(LAppendStore$Octets;)V" } : Jvm.MethodName)) ∈ aw_ws := aw_t3 (List.mem_of_getElem? (i := 164) (by decide +kernel)) rfl
theorem wd_3_165 : (Jvm.Cond.code ({ cls := "AppendStore$Rec", name := "addBytesTo", desc := "(LAppendStore$Octets;)V" } : Jvm.MethodName) prog_7_method_8_code (2 : Nat) (Option.none : Option Jvm.ClassFile.FieldType)) ∈ aw_ws := aw_t3 (List.mem_of_getElem? (i := 165) (by decide +kernel)) rfl
theorem wd_3_166 : (Jvm.Cond.methodLink "AppendStore$Rec" (64 : Nat) ({ cls := "AppendStore$Octets", name := "addFrom", desc := "(LAppendStore$Octets;II)V" } : Jvm.MethodName)) ∈ aw_ws := aw_t3 (List.mem_of_getElem? (i := 166) (by decide +kernel)) rfl
theorem wd_3_167 : (Jvm.Cond.instanceMethod ({ cls := "AppendStore$Octets", name := "addFrom", desc := "(LAppendStore$Octets;II)V" } : Jvm.MethodName)) ∈ aw_ws := aw_t3 (List.mem_of_getElem? (i := 167) (by decide +kernel)) rfl
theorem wd_3_168 : (Jvm.Cond.selects "AppendStore$Octets" ({ cls := "AppendStore$Octets", name := "addFrom", desc := "(LAppendStore$Octets;II)V" } : Jvm.MethodName) ({ cls := "AppendStore$Octets", name := "addFrom", desc := "(LAppendStore$Octets;II)V" } : Jvm.MethodName)) ∈ aw_ws := aw_t3 (List.mem_of_getElem? (i := 168) (by decide +kernel)) rfl
theorem wd_3_169 : (Jvm.Cond.code ({ cls := "AppendStore$Octets", name := "addFrom", desc := "(LAppendStore$Octets;II)V" } : Jvm.MethodName) prog_6_method_10_code (5 : Nat) (Option.none : Option Jvm.ClassFile.FieldType)) ∈ aw_ws := aw_t3 (List.mem_of_getElem? (i := 169) (by decide +kernel)) rfl
theorem wd_3_170 : (Jvm.Cond.methodLink "AppendStore" (158 : Nat) ({ cls := "AppendStore$Merger", name := "cameToAll", desc := "(LAppendStore$Shelf;)Z" } : Jvm.MethodName)) ∈ aw_ws := aw_t3 (List.mem_of_getElem? (i := 170) (by decide +kernel)) rfl
theorem wd_3_171 : (Jvm.Cond.methodLink "AppendStore" (162 : Nat) ({ cls := "AppendStore$Merger", name := "publish", desc := "(LAppendStore$Shelf;LAppendStore$Directory;)V" } : Jvm.MethodName)) ∈ aw_ws := aw_t3 (List.mem_of_getElem? (i := 171) (by decide +kernel)) rfl
theorem wd_3_172 : (Jvm.Cond.instanceMethod ({ cls := "AppendStore$Merger", name := "publish", desc := "(LAppendStore$Shelf;LAppendStore$Directory;)V" } : Jvm.MethodName)) ∈ aw_ws := aw_t3 (List.mem_of_getElem? (i := 172) (by decide +kernel)) rfl
theorem wd_3_173 : (Jvm.Cond.selects "AppendStore$Merger" ({ cls := "AppendStore$Merger", name := "publish", desc := "(LAppendStore$Shelf;LAppendStore$Directory;)V" } : Jvm.MethodName) ({ cls := "AppendStore$Merger", name := "publish", desc := "(LAppendStore$Shelf;LAppendStore$Directory;)V" } : Jvm.MethodName)) ∈ aw_ws := aw_t3 (List.mem_of_getElem? (i := 173) (by decide +kernel)) rfl
theorem wd_3_174 : (Jvm.Cond.code ({ cls := "AppendStore$Merger", name := "publish", desc := "(LAppendStore$Shelf;LAppendStore$Directory;)V" } : Jvm.MethodName) prog_5_method_7_code (6 : Nat) (Option.none : Option Jvm.ClassFile.FieldType)) ∈ aw_ws := aw_t3 (List.mem_of_getElem? (i := 174) (by decide +kernel)) rfl
theorem wd_3_175 : (Jvm.Cond.methodLink "AppendStore$Merger" (67 : Nat) ({ cls := "AppendStore$StoreFile", name := "number", desc := "()I" } : Jvm.MethodName)) ∈ aw_ws := aw_t3 (List.mem_of_getElem? (i := 175) (by decide +kernel)) rfl
theorem wd_3_176 : (Jvm.Cond.methodLink "AppendStore$Merger" (70 : Nat) ({ cls := "AppendStore$StoreFile", name := "publishAs", desc := "(I)V" } : Jvm.MethodName)) ∈ aw_ws := aw_t3 (List.mem_of_getElem? (i := 176) (by decide +kernel)) rfl
theorem wd_3_177 : (Jvm.Cond.instanceMethod ({ cls := "AppendStore$StoreFile", name := "publishAs", desc := "(I)V" } : Jvm.MethodName)) ∈ aw_ws := aw_t3 (List.mem_of_getElem? (i := 177) (by decide +kernel)) rfl
theorem wd_3_178 : (Jvm.Cond.selects "AppendStore$StoreFile" ({ cls := "AppendStore$StoreFile", name := "publishAs", desc := "(I)V" } : Jvm.MethodName) ({ cls := "AppendStore$StoreFile", name := "publishAs", desc := "(I)V" } : Jvm.MethodName)) ∈ aw_ws := aw_t3 (List.mem_of_getElem? (i := 178) (by decide +kernel)) rfl
theorem wd_3_179 : (Jvm.Cond.code ({ cls := "AppendStore$StoreFile", name := "publishAs", desc := "(I)V" } : Jvm.MethodName) prog_9_method_15_code (4 : Nat) (Option.none : Option Jvm.ClassFile.FieldType)) ∈ aw_ws := aw_t3 (List.mem_of_getElem? (i := 179) (by decide +kernel)) rfl
theorem wd_3_180 : (Jvm.Cond.methodLink "AppendStore$StoreFile" (104 : Nat) ({ cls := "AppendStore$Octets", name := "addFrom", desc := "(LAppendStore$Octets;II)V" } : Jvm.MethodName)) ∈ aw_ws := aw_t3 (List.mem_of_getElem? (i := 180) (by decide +kernel)) rfl
theorem wd_3_181 : (Jvm.Cond.methodLink "AppendStore$StoreFile" (108 : Nat) ({ cls := "AppendStore$Rec", name := "keySize", desc := "()I" } : Jvm.MethodName)) ∈ aw_ws := aw_t3 (List.mem_of_getElem? (i := 181) (by decide +kernel)) rfl
theorem wd_3_182 : (Jvm.Cond.methodLink "AppendStore$Merger" (74 : Nat) ({ cls := "AppendStore$Merger", name := "pointToCopies", desc := "(LAppendStore$StoreFile;LAppendStore$Directory;)V" } : Jvm.MethodName)) ∈ aw_ws := aw_t3 (List.mem_of_getElem? (i := 182) (by decide +kernel)) rfl
theorem wd_3_183 : (Jvm.Cond.static ({ cls := "AppendStore$Merger", name := "pointToCopies", desc := "(LAppendStore$StoreFile;LAppendStore$Directory;)V" } : Jvm.MethodName)) ∈ aw_ws := aw_t3 (List.mem_of_getElem? (i := 183) (by decide +kernel)) rfl
theorem wd_3_184 : (Jvm.Cond.code ({ cls := "AppendStore$Merger", name := "pointToCopies", desc := "(LAppendStore$StoreFile;LAppendStore$Directory;)V" } : Jvm.MethodName) prog_5_method_8_code (4 : Nat) (Option.none : Option Jvm.ClassFile.FieldType)) ∈ aw_ws := aw_t3 (List.mem_of_getElem? (i := 184) (by decide +kernel)) rfl
theorem wd_3_185 : (Jvm.Cond.methodLink "AppendStore$Merger" (92 : Nat) ({ cls := "AppendStore$Directory", name := "replace", desc := "(LAppendStore$Rec;LAppendStore$Rec;)V" } : Jvm.MethodName)) ∈ aw_ws := aw_t3 (List.mem_of_getElem? (i := 185) (by decide +kernel)) rfl
theorem wd_3_186 : (Jvm.Cond.instanceMethod ({ cls := "AppendStore$Directory", name := "replace", desc := "(LAppendStore$Rec;LAppendStore$Rec;)V" } : Jvm.MethodName)) ∈ aw_ws := aw_t3 (List.mem_of_getElem? (i := 186) (by decide +kernel)) rfl
theorem wd_3_187 : (Jvm.Cond.selects "AppendStore$Directory" ({ cls := "AppendStore$Directory", name := "replace", desc := "(LAppendStore$Rec;LAppendStore$Rec;)V" } : Jvm.MethodName) ({ cls := "AppendStore$Directory", name := "replace", desc := "(LAppendStore$Rec;LAppendStore$Rec;)V" } : Jvm.MethodName)) ∈ aw_ws := aw_t3 (List.mem_of_getElem? (i := 187) (by decide +kernel)) rfl
theorem wd_3_188 : (Jvm.Cond.code ({ cls := "AppendStore$Directory", name := "replace", desc := "(LAppendStore$Rec;LAppendStore$Rec;)V" } : Jvm.MethodName) prog_2_method_8_code (3 : Nat) (Option.none : Option Jvm.ClassFile.FieldType)) ∈ aw_ws := aw_t3 (List.mem_of_getElem? (i := 188) (by decide +kernel)) rfl
theorem wd_3_189 : (Jvm.Cond.methodLink "AppendStore$Directory" (51 : Nat) ({ cls := "AppendStore$Directory", name := "has", desc := "(LAppendStore$Rec;)Z" } : Jvm.MethodName)) ∈ aw_ws := aw_t3 (List.mem_of_getElem? (i := 189) (by decide +kernel)) rfl
theorem wd_3_190 : (Jvm.Cond.methodLink "AppendStore$Directory" (55 : Nat) ({ cls := "AppendStore$Directory", name := "enter", desc := "(LAppendStore$Rec;)V" } : Jvm.MethodName)) ∈ aw_ws := aw_t3 (List.mem_of_getElem? (i := 190) (by decide +kernel)) rfl
theorem wd_3_191 : (Jvm.Cond.methodLink "AppendStore$Merger" (78 : Nat) ({ cls := "AppendStore$Shelf", name := "exchange", desc := "(ILAppendStore$StoreFile;)LAppendStore$StoreFile;" } : Jvm.MethodName)) ∈ aw_ws := aw_t3 (List.mem_of_getElem? (i := 191) (by decide +kernel)) rfl
theorem wd_3_192 : (Jvm.Cond.instanceMethod ({ cls := "AppendStore$Shelf", name := "exchange", desc := "(ILAppendStore$StoreFile;)LAppendStore$StoreFile;" } : Jvm.MethodName)) ∈ aw_ws := aw_t3 (List.mem_of_getElem? (i := 192) (by decide +kernel)) rfl
theorem wd_3_193 : (Jvm.Cond.selects "AppendStore$Shelf" ({ cls := "AppendStore$Shelf", name := "exchange", desc := "(ILAppendStore$StoreFile;)LAppendStore$StoreFile;" } : Jvm.MethodName) ({ cls := "AppendStore$Shelf", name := "exchange", desc := "(ILAppendStore$StoreFile;)LAppendStore$StoreFile;" } : Jvm.MethodName)) ∈ aw_ws := aw_t3 (List.mem_of_getElem? (i := 193) (by decide +kernel)) rfl
theorem wd_3_194 : (Jvm.Cond.code ({ cls := "AppendStore$Shelf", name := "exchange", desc := "(ILAppendStore$StoreFile;)LAppendStore$StoreFile;" } : Jvm.MethodName) prog_8_method_9_code (4 : Nat) (Option.some (Jvm.ClassFile.FieldType.object "AppendStore$StoreFile"))) ∈ aw_ws := aw_t3 (List.mem_of_getElem? (i := 194) (by decide +kernel)) rfl
theorem wd_3_195 : (Jvm.Cond.methodLink "AppendStore$Merger" (82 : Nat) ({ cls := "AppendStore$Shelf", name := "takeOut", desc := "(I)V" } : Jvm.MethodName)) ∈ aw_ws := aw_t3 (List.mem_of_getElem? (i := 195) (by decide +kernel)) rfl
theorem wd_3_196 : (Jvm.Cond.instanceMethod ({ cls := "AppendStore$Shelf", name := "takeOut", desc := "(I)V" } : Jvm.MethodName)) ∈ aw_ws := aw_t3 (List.mem_of_getElem? (i := 196) (by decide +kernel)) rfl
theorem wd_3_197 : (Jvm.Cond.selects "AppendStore$Shelf" ({ cls := "AppendStore$Shelf", name := "takeOut", desc := "(I)V" } : Jvm.MethodName) ({ cls := "AppendStore$Shelf", name := "takeOut", desc := "(I)V" } : Jvm.MethodName)) ∈ aw_ws := aw_t3 (List.mem_of_getElem? (i := 197) (by decide +kernel)) rfl
theorem wd_3_198 : (Jvm.Cond.code ({ cls := "AppendStore$Shelf", name := "takeOut", desc := "(I)V" } : Jvm.MethodName) prog_8_method_10_code (4 : Nat) (Option.none : Option Jvm.ClassFile.FieldType)) ∈ aw_ws := aw_t3 (List.mem_of_getElem? (i := 198) (by decide +kernel)) rfl
theorem wd_3_199 : (Jvm.Cond.methodLink "AppendStore$Merger" (85 : Nat) ({ cls := "AppendStore$Merger", name := "drop", desc := "()V" } : Jvm.MethodName)) ∈ aw_ws := aw_t3 (List.mem_of_getElem? (i := 199) (by decide +kernel)) rfl
theorem wd_3_208 : (Jvm.Cond.methodLink "AppendStore" (171 : Nat) ({ cls := "AppendStore$StoreFile", name := "number", desc := "()I" } : Jvm.MethodName)) ∈ aw_ws := aw_t3 (List.mem_of_getElem? (i := 208) (by decide +kernel)) rfl
theorem wd_3_209 : (Jvm.Cond.methodLink "AppendStore" (173 : Nat) ({ cls := "AppendStore$StoreFile", name := "bytes", desc := "()LAppendStore$Octets;" } : Jvm.MethodName)) ∈ aw_ws := aw_t3 (List.mem_of_getElem? (i := 209) (by decide +kernel)) rfl
theorem wd_3_210 : (Jvm.Cond.methodLink "AppendStore" (177 : Nat) ({ cls := "AppendStore$Octets", name := "size", desc := "()I" } : Jvm.MethodName)) ∈ aw_ws := aw_t3 (List.mem_of_getElem? (i := 210) (by decide +kernel)) rfl
theorem wd_3_211 : (Jvm.Cond.methodLink "AppendStore" (181 : Nat) ({ cls := "AppendStore$StoreFile", name := "synced", desc := "()I" } : Jvm.MethodName)) ∈ aw_ws := aw_t3 (List.mem_of_getElem? (i := 211) (by decide +kernel)) rfl
theorem wd_3_212 : (Jvm.Cond.instanceMethod ({ cls := "AppendStore$StoreFile", name := "synced", desc := "()I" } : Jvm.MethodName)) ∈ aw_ws := aw_t3 (List.mem_of_getElem? (i := 212) (by decide +kernel)) rfl
theorem wd_3_213 : (Jvm.Cond.selects "AppendStore$StoreFile" ({ cls := "AppendStore$StoreFile", name := "synced", desc := "()I" } : Jvm.MethodName) ({ cls := "AppendStore$StoreFile", name := "synced", desc := "()I" } : Jvm.MethodName)) ∈ aw_ws := aw_t3 (List.mem_of_getElem? (i := 213) (by decide +kernel)) rfl
theorem wd_3_214 : (Jvm.Cond.code ({ cls := "AppendStore$StoreFile", name := "synced", desc := "()I" } : Jvm.MethodName) prog_9_method_4_code (1 : Nat) (Option.some Jvm.ClassFile.FieldType.int)) ∈ aw_ws := aw_t3 (List.mem_of_getElem? (i := 214) (by decide +kernel)) rfl
theorem wd_3_215 : (Jvm.Cond.methodLink "AppendStore" (184 : Nat) ({ cls := "AppendStore$StoreFile", name := "liveBytes", desc := "(LAppendStore$Directory;)I" } : Jvm.MethodName)) ∈ aw_ws := aw_t3 (List.mem_of_getElem? (i := 215) (by decide +kernel)) rfl
theorem wd_3_216 : (Jvm.Cond.instanceMethod ({ cls := "AppendStore$StoreFile", name := "liveBytes", desc := "(LAppendStore$Directory;)I" } : Jvm.MethodName)) ∈ aw_ws := aw_t3 (List.mem_of_getElem? (i := 216) (by decide +kernel)) rfl
theorem wd_3_217 : (Jvm.Cond.selects "AppendStore$StoreFile" ({ cls := "AppendStore$StoreFile", name := "liveBytes", desc := "(LAppendStore$Directory;)I" } : Jvm.MethodName) ({ cls := "AppendStore$StoreFile", name := "liveBytes", desc := "(LAppendStore$Directory;)I" } : Jvm.MethodName)) ∈ aw_ws := aw_t3 (List.mem_of_getElem? (i := 217) (by decide +kernel)) rfl
theorem wd_3_218 : (Jvm.Cond.code ({ cls := "AppendStore$StoreFile", name := "liveBytes", desc := "(LAppendStore$Directory;)I" } : Jvm.MethodName) prog_9_method_11_code (4 : Nat) (Option.some Jvm.ClassFile.FieldType.int)) ∈ aw_ws := aw_t3 (List.mem_of_getElem? (i := 218) (by decide +kernel)) rfl
theorem wd_3_219 : (Jvm.Cond.methodLink "AppendStore$StoreFile" (50 : Nat) ({ cls := "AppendStore$Directory", name := "has", desc := "(LAppendStore$Rec;)Z" } : Jvm.MethodName)) ∈ aw_ws := aw_t3 (List.mem_of_getElem? (i := 219) (by decide +kernel)) rfl
theorem wd_3_220 : (Jvm.Cond.methodLink "AppendStore$StoreFile" (56 : Nat) ({ cls := "AppendStore$Rec", name := "size", desc := "()I" } : Jvm.MethodName)) ∈ aw_ws := aw_t3 (List.mem_of_getElem? (i := 220) (by decide +kernel)) rfl
theorem wd_3_221 : (Jvm.Cond.methodLink "AppendStore" (188 : Nat) ({ cls := "AppendStore$StoreFile", name := "hint", desc := "()LAppendStore$Octets;" } : Jvm.MethodName)) ∈ aw_ws := aw_t3 (List.mem_of_getElem? (i := 221) (by decide +kernel)) rfl
theorem wd_3_222 : (Jvm.Cond.instanceMethod ({ cls := "AppendStore$StoreFile", name := "hint", desc := "()LAppendStore$Octets;" } : Jvm.MethodName)) ∈ aw_ws := aw_t3 (List.mem_of_getElem? (i := 222) (by decide +kernel)) rfl
theorem wd_3_223 : (Jvm.Cond.selects "AppendStore$StoreFile" ({ cls := "AppendStore$StoreFile", name := "hint", desc := "()LAppendStore$Octets;" } : Jvm.MethodName) ({ cls := "AppendStore$StoreFile", name := "hint", desc := "()LAppendStore$Octets;" } : Jvm.MethodName)) ∈ aw_ws := aw_t3 (List.mem_of_getElem? (i := 223) (by decide +kernel)) rfl
theorem wd_3_224 : (Jvm.Cond.code ({ cls := "AppendStore$StoreFile", name := "hint", desc := "()LAppendStore$Octets;" } : Jvm.MethodName) prog_9_method_6_code (1 : Nat) (Option.some (Jvm.ClassFile.FieldType.object "AppendStore$Octets"))) ∈ aw_ws := aw_t3 (List.mem_of_getElem? (i := 224) (by decide +kernel)) rfl
theorem wd_3_232 : (Jvm.Cond.methodLink "AppendStore" (191 : Nat) ({ cls := "AppendStore", name := "rowWith", desc := "(IIZ)LAppendStore$Octets;" } : Jvm.MethodName)) ∈ aw_ws := aw_t3 (List.mem_of_getElem? (i := 232) (by decide +kernel)) rfl
theorem wd_3_234 : (Jvm.Cond.instanceMethod ({ cls := "AppendStore", name := "rowWith", desc := "(IIZ)LAppendStore$Octets;" } : Jvm.MethodName)) ∈ aw_ws := aw_t3 (List.mem_of_getElem? (i := 234) (by decide +kernel)) rfl
theorem wd_3_235 : (Jvm.Cond.code ({ cls := "AppendStore", name := "rowWith", desc := "(IIZ)LAppendStore$Octets;" } : Jvm.MethodName) prog_1_method_17_code (6 : Nat) (Option.some (Jvm.ClassFile.FieldType.object "AppendStore$Octets"))) ∈ aw_ws := aw_t3 (List.mem_of_getElem? (i := 235) (by decide +kernel)) rfl
theorem wd_3_236 : (Jvm.Cond.methodLink "AppendStore" (206 : Nat) ({ cls := "AppendStore$Octets", name := "has", desc := "(I)Z" } : Jvm.MethodName)) ∈ aw_ws := aw_t3 (List.mem_of_getElem? (i := 236) (by decide +kernel)) rfl
theorem wd_3_238 : (Jvm.Cond.methodLink "AppendStore" (195 : Nat) ({ cls := "AppendStore$Octets", name := "at", desc := "(I)I" } : Jvm.MethodName)) ∈ aw_ws := aw_t3 (List.mem_of_getElem? (i := 238) (by decide +kernel)) rfl
theorem wd_4_6 : (Jvm.Cond.methodLink "AppendStore" (198 : Nat) ({ cls := "AppendStore$Octets", name := "set", desc := "(II)V" } : Jvm.MethodName)) ∈ aw_ws := aw_t4 (List.mem_of_getElem? (i := 6) (by decide +kernel)) rfl
theorem wd_4_7 : (Jvm.Cond.classLink "AppendStoreLaw" (61 : Nat) "AppendStoreModel") ∈ aw_ws := aw_t4 (List.mem_of_getElem? (i := 7) (by decide +kernel)) rfl
theorem wd_4_8 : (Jvm.Cond.instantiable "AppendStoreModel" (29 : Nat)) ∈ aw_ws := aw_t4 (List.mem_of_getElem? (i := 8) (by decide +kernel)) rfl
theorem wd_4_9 : (Jvm.Cond.methodLink "AppendStoreLaw" (63 : Nat) ({ cls := "AppendStoreModel", name := "<init>", desc := "()V" } : Jvm.MethodName)) ∈ aw_ws := aw_t4 (List.mem_of_getElem? (i := 9) (by decide +kernel)) rfl
theorem wd_4_10 : (Jvm.Cond.instanceMethod ({ cls := "AppendStoreModel", name := "<init>", desc := "()V" } : Jvm.MethodName)) ∈ aw_ws := aw_t4 (List.mem_of_getElem? (i := 10) (by decide +kernel)) rfl
theorem wd_4_11 : (Jvm.Cond.code ({ cls := "AppendStoreModel", name := "<init>", desc := "()V" } : Jvm.MethodName) prog_11_method_1_code (1 : Nat) (Option.none : Option Jvm.ClassFile.FieldType)) ∈ aw_ws := aw_t4 (List.mem_of_getElem? (i := 11) (by decide +kernel)) rfl
theorem wd_4_12 : (Jvm.Cond.methodLink "AppendStoreModel" (1 : Nat) ({ cls := "java/lang/Object", name := "<init>", desc := "()V" } : Jvm.MethodName)) ∈ aw_ws := aw_t4 (List.mem_of_getElem? (i := 12) (by decide +kernel)) rfl
theorem wd_4_13 : (Jvm.Cond.fieldLink "AppendStoreModel" (63 : Nat) "AppendStoreModel" "thrown" "I") ∈ aw_ws := aw_t4 (List.mem_of_getElem? (i := 13) (by decide +kernel)) rfl
theorem wd_4_14 : (Jvm.Cond.fieldLink "AppendStoreModel" (99 : Nat) "AppendStoreModel" "files" "I") ∈ aw_ws := aw_t4 (List.mem_of_getElem? (i := 14) (by decide +kernel)) rfl
theorem wd_4_15 : (Jvm.Cond.fieldLink "AppendStoreModel" (7 : Nat) "AppendStoreModel" "number" "[I") ∈ aw_ws := aw_t4 (List.mem_of_getElem? (i := 15) (by decide +kernel)) rfl
theorem wd_4_16 : (Jvm.Cond.fieldLink "AppendStoreModel" (13 : Nat) "AppendStoreModel" "size" "[I") ∈ aw_ws := aw_t4 (List.mem_of_getElem? (i := 16) (by decide +kernel)) rfl
theorem wd_4_17 : (Jvm.Cond.fieldLink "AppendStoreModel" (16 : Nat) "AppendStoreModel" "synced" "[I") ∈ aw_ws := aw_t4 (List.mem_of_getElem? (i := 17) (by decide +kernel)) rfl
theorem wd_4_18 : (Jvm.Cond.fieldLink "AppendStoreModel" (19 : Nat) "AppendStoreModel" "bytes" "[I") ∈ aw_ws := aw_t4 (List.mem_of_getElem? (i := 18) (by decide +kernel)) rfl
theorem wd_4_19 : (Jvm.Cond.fieldLink "AppendStoreModel" (22 : Nat) "AppendStoreModel" "hinted" "[Z") ∈ aw_ws := aw_t4 (List.mem_of_getElem? (i := 19) (by decide +kernel)) rfl
theorem wd_4_20 : (Jvm.Cond.fieldLink "AppendStoreModel" (26 : Nat) "AppendStoreModel" "hintSize" "[I") ∈ aw_ws := aw_t4 (List.mem_of_getElem? (i := 20) (by decide +kernel)) rfl
theorem wd_4_21 : (Jvm.Cond.fieldLink "AppendStoreModel" (29 : Nat) "AppendStoreModel" "hints" "[I") ∈ aw_ws := aw_t4 (List.mem_of_getElem? (i := 21) (by decide +kernel)) rfl
theorem wd_4_22 : (Jvm.Cond.fieldLink "AppendStoreModel" (32 : Nat) "AppendStoreModel" "count" "[I") ∈ aw_ws := aw_t4 (List.mem_of_getElem? (i := 22) (by decide +kernel)) rfl
theorem wd_4_23 : (Jvm.Cond.fieldLink "AppendStoreModel" (35 : Nat) "AppendStoreModel" "place" "[I") ∈ aw_ws := aw_t4 (List.mem_of_getElem? (i := 23) (by decide +kernel)) rfl
theorem wd_4_24 : (Jvm.Cond.fieldLink "AppendStoreModel" (38 : Nat) "AppendStoreModel" "keySize" "[I") ∈ aw_ws := aw_t4 (List.mem_of_getElem? (i := 24) (by decide +kernel)) rfl
theorem wd_4_25 : (Jvm.Cond.fieldLink "AppendStoreModel" (41 : Nat) "AppendStoreModel" "valueSize" "[I") ∈ aw_ws := aw_t4 (List.mem_of_getElem? (i := 25) (by decide +kernel)) rfl
theorem wd_4_26 : (Jvm.Cond.fieldLink "AppendStoreModel" (44 : Nat) "AppendStoreModel" "fromFile" "[I") ∈ aw_ws := aw_t4 (List.mem_of_getElem? (i := 26) (by decide +kernel)) rfl
theorem wd_4_27 : (Jvm.Cond.fieldLink "AppendStoreModel" (47 : Nat) "AppendStoreModel" "fromRecord" "[I") ∈ aw_ws := aw_t4 (List.mem_of_getElem? (i := 27) (by decide +kernel)) rfl
theorem wd_4_28 : (Jvm.Cond.fieldLink "AppendStoreModel" (85 : Nat) "AppendStoreModel" "entries" "I") ∈ aw_ws := aw_t4 (List.mem_of_getElem? (i := 28) (by decide +kernel)) rfl
theorem wd_4_29 : (Jvm.Cond.fieldLink "AppendStoreModel" (50 : Nat) "AppendStoreModel" "key" "[J") ∈ aw_ws := aw_t4 (List.mem_of_getElem? (i := 29) (by decide +kernel)) rfl
theorem wd_4_30 : (Jvm.Cond.fieldLink "AppendStoreModel" (54 : Nat) "AppendStoreModel" "sizeOf" "[I") ∈ aw_ws := aw_t4 (List.mem_of_getElem? (i := 30) (by decide +kernel)) rfl
theorem wd_4_31 : (Jvm.Cond.fieldLink "AppendStoreModel" (57 : Nat) "AppendStoreModel" "fileOf" "[I") ∈ aw_ws := aw_t4 (List.mem_of_getElem? (i := 31) (by decide +kernel)) rfl
theorem wd_4_32 : (Jvm.Cond.fieldLink "AppendStoreModel" (60 : Nat) "AppendStoreModel" "recordOf" "[I") ∈ aw_ws := aw_t4 (List.mem_of_getElem? (i := 32) (by decide +kernel)) rfl
theorem wd_4_33 : (Jvm.Cond.fieldLink "AppendStoreModel" (102 : Nat) "AppendStoreModel" "hasActive" "Z") ∈ aw_ws := aw_t4 (List.mem_of_getElem? (i := 33) (by decide +kernel)) rfl
theorem wd_4_34 : (Jvm.Cond.fieldLink "AppendStoreModel" (137 : Nat) "AppendStoreModel" "closed" "Z") ∈ aw_ws := aw_t4 (List.mem_of_getElem? (i := 34) (by decide +kernel)) rfl
theorem wd_4_35 : (Jvm.Cond.fieldLink "AppendStoreModel" (114 : Nat) "AppendStoreModel" "last" "I") ∈ aw_ws := aw_t4 (List.mem_of_getElem? (i := 35) (by decide +kernel)) rfl
theorem wd_4_36 : (Jvm.Cond.fieldLink "AppendStoreModel" (125 : Nat) "AppendStoreModel" "time" "I") ∈ aw_ws := aw_t4 (List.mem_of_getElem? (i := 36) (by decide +kernel)) rfl
theorem wd_4_37 : (Jvm.Cond.fieldLink "AppendStoreModel" (175 : Nat) "AppendStoreModel" "merging" "Z") ∈ aw_ws := aw_t4 (List.mem_of_getElem? (i := 37) (by decide +kernel)) rfl
theorem wd_4_38 : (Jvm.Cond.fieldLink "AppendStoreModel" (193 : Nat) "AppendStoreModel" "taken" "I") ∈ aw_ws := aw_t4 (List.mem_of_getElem? (i := 38) (by decide +kernel)) rfl
theorem wd_4_39 : (Jvm.Cond.fieldLink "AppendStoreModel" (190 : Nat) "AppendStoreModel" "atFile" "I") ∈ aw_ws := aw_t4 (List.mem_of_getElem? (i := 39) (by decide +kernel)) rfl
theorem wd_4_40 : (Jvm.Cond.fieldLink "AppendStoreModel" (196 : Nat) "AppendStoreModel" "atRecord" "I") ∈ aw_ws := aw_t4 (List.mem_of_getElem? (i := 40) (by decide +kernel)) rfl
theorem wd_4_41 : (Jvm.Cond.fieldLink "AppendStoreModel" (202 : Nat) "AppendStoreModel" "made" "I") ∈ aw_ws := aw_t4 (List.mem_of_getElem? (i := 41) (by decide +kernel)) rfl
theorem wd_4_42 : (Jvm.Cond.lays "AppendStoreModel" "AppendStoreModel" "thrown" "I") ∈ aw_ws := aw_t4 (List.mem_of_getElem? (i := 42) (by decide +kernel)) rfl
theorem wd_4_44 : (Jvm.Cond.lays "AppendStoreModel" "AppendStoreModel" "files" "I") ∈ aw_ws := aw_t4 (List.mem_of_getElem? (i := 44) (by decide +kernel)) rfl
theorem wd_4_46 : (Jvm.Cond.laysFinal "AppendStoreModel" "AppendStoreModel" "number" "[I") ∈ aw_ws := aw_t4 (List.mem_of_getElem? (i := 46) (by decide +kernel)) rfl
theorem wd_4_48 : (Jvm.Cond.laysFinal "AppendStoreModel" "AppendStoreModel" "size" "[I") ∈ aw_ws := aw_t4 (List.mem_of_getElem? (i := 48) (by decide +kernel)) rfl
theorem wd_4_50 : (Jvm.Cond.laysFinal "AppendStoreModel" "AppendStoreModel" "synced" "[I") ∈ aw_ws := aw_t4 (List.mem_of_getElem? (i := 50) (by decide +kernel)) rfl
theorem wd_4_52 : (Jvm.Cond.laysFinal "AppendStoreModel" "AppendStoreModel" "bytes" "[I") ∈ aw_ws := aw_t4 (List.mem_of_getElem? (i := 52) (by decide +kernel)) rfl
theorem wd_4_54 : (Jvm.Cond.laysFinal "AppendStoreModel" "AppendStoreModel" "hinted" "[Z") ∈ aw_ws := aw_t4 (List.mem_of_getElem? (i := 54) (by decide +kernel)) rfl
theorem wd_4_56 : (Jvm.Cond.laysFinal "AppendStoreModel" "AppendStoreModel" "hintSize" "[I") ∈ aw_ws := aw_t4 (List.mem_of_getElem? (i := 56) (by decide +kernel)) rfl
theorem wd_4_58 : (Jvm.Cond.laysFinal "AppendStoreModel" "AppendStoreModel" "hints" "[I") ∈ aw_ws := aw_t4 (List.mem_of_getElem? (i := 58) (by decide +kernel)) rfl
theorem wd_4_60 : (Jvm.Cond.laysFinal "AppendStoreModel" "AppendStoreModel" "count" "[I") ∈ aw_ws := aw_t4 (List.mem_of_getElem? (i := 60) (by decide +kernel)) rfl
theorem wd_4_62 : (Jvm.Cond.laysFinal "AppendStoreModel" "AppendStoreModel" "place" "[I") ∈ aw_ws := aw_t4 (List.mem_of_getElem? (i := 62) (by decide +kernel)) rfl
theorem wd_4_64 : (Jvm.Cond.laysFinal "AppendStoreModel" "AppendStoreModel" "keySize" "[I") ∈ aw_ws := aw_t4 (List.mem_of_getElem? (i := 64) (by decide +kernel)) rfl
theorem wd_4_66 : (Jvm.Cond.laysFinal "AppendStoreModel" "AppendStoreModel" "valueSize" "[I") ∈ aw_ws := aw_t4 (List.mem_of_getElem? (i := 66) (by decide +kernel)) rfl
theorem wd_4_68 : (Jvm.Cond.laysFinal "AppendStoreModel" "AppendStoreModel" "fromFile" "[I") ∈ aw_ws := aw_t4 (List.mem_of_getElem? (i := 68) (by decide +kernel)) rfl
theorem wd_4_70 : (Jvm.Cond.laysFinal "AppendStoreModel" "AppendStoreModel" "fromRecord" "[I") ∈ aw_ws := aw_t4 (List.mem_of_getElem? (i := 70) (by decide +kernel)) rfl
theorem wd_4_72 : (Jvm.Cond.lays "AppendStoreModel" "AppendStoreModel" "entries" "I") ∈ aw_ws := aw_t4 (List.mem_of_getElem? (i := 72) (by decide +kernel)) rfl
theorem wd_4_74 : (Jvm.Cond.laysFinal "AppendStoreModel" "AppendStoreModel" "key" "[J") ∈ aw_ws := aw_t4 (List.mem_of_getElem? (i := 74) (by decide +kernel)) rfl
theorem wd_4_76 : (Jvm.Cond.laysFinal "AppendStoreModel" "AppendStoreModel" "sizeOf" "[I") ∈ aw_ws := aw_t4 (List.mem_of_getElem? (i := 76) (by decide +kernel)) rfl
theorem wd_4_78 : (Jvm.Cond.laysFinal "AppendStoreModel" "AppendStoreModel" "fileOf" "[I") ∈ aw_ws := aw_t4 (List.mem_of_getElem? (i := 78) (by decide +kernel)) rfl
theorem wd_4_80 : (Jvm.Cond.laysFinal "AppendStoreModel" "AppendStoreModel" "recordOf" "[I") ∈ aw_ws := aw_t4 (List.mem_of_getElem? (i := 80) (by decide +kernel)) rfl
theorem wd_4_82 : (Jvm.Cond.lays "AppendStoreModel" "AppendStoreModel" "hasActive" "Z") ∈ aw_ws := aw_t4 (List.mem_of_getElem? (i := 82) (by decide +kernel)) rfl
theorem wd_4_84 : (Jvm.Cond.lays "AppendStoreModel" "AppendStoreModel" "closed" "Z") ∈ aw_ws := aw_t4 (List.mem_of_getElem? (i := 84) (by decide +kernel)) rfl
theorem wd_4_86 : (Jvm.Cond.lays "AppendStoreModel" "AppendStoreModel" "last" "I") ∈ aw_ws := aw_t4 (List.mem_of_getElem? (i := 86) (by decide +kernel)) rfl
theorem wd_4_88 : (Jvm.Cond.lays "AppendStoreModel" "AppendStoreModel" "time" "I") ∈ aw_ws := aw_t4 (List.mem_of_getElem? (i := 88) (by decide +kernel)) rfl
theorem wd_4_90 : (Jvm.Cond.lays "AppendStoreModel" "AppendStoreModel" "merging" "Z") ∈ aw_ws := aw_t4 (List.mem_of_getElem? (i := 90) (by decide +kernel)) rfl
theorem wd_4_92 : (Jvm.Cond.lays "AppendStoreModel" "AppendStoreModel" "taken" "I") ∈ aw_ws := aw_t4 (List.mem_of_getElem? (i := 92) (by decide +kernel)) rfl
theorem wd_4_94 : (Jvm.Cond.lays "AppendStoreModel" "AppendStoreModel" "atFile" "I") ∈ aw_ws := aw_t4 (List.mem_of_getElem? (i := 94) (by decide +kernel)) rfl
theorem wd_4_96 : (Jvm.Cond.lays "AppendStoreModel" "AppendStoreModel" "atRecord" "I") ∈ aw_ws := aw_t4 (List.mem_of_getElem? (i := 96) (by decide +kernel)) rfl
theorem wd_4_98 : (Jvm.Cond.lays "AppendStoreModel" "AppendStoreModel" "made" "I") ∈ aw_ws := aw_t4 (List.mem_of_getElem? (i := 98) (by decide +kernel)) rfl
theorem wd_4_101 : (Jvm.Cond.arrayClass Jvm.ClassFile.FieldType.int) ∈ aw_ws := aw_t4 (List.mem_of_getElem? (i := 101) (by decide +kernel)) rfl
theorem wd_4_102 : (Jvm.Cond.arrayClass Jvm.ClassFile.FieldType.boolean) ∈ aw_ws := aw_t4 (List.mem_of_getElem? (i := 102) (by decide +kernel)) rfl
theorem wd_4_103 : (Jvm.Cond.arrayClass Jvm.ClassFile.FieldType.long) ∈ aw_ws := aw_t4 (List.mem_of_getElem? (i := 103) (by decide +kernel)) rfl
theorem wd_4_112 : (Jvm.Cond.methodLink "AppendStoreModel" (133 : Nat) ({ cls := "AppendStoreModel", name := "in", desc := "(III)Z" } : Jvm.MethodName)) ∈ aw_ws := aw_t4 (List.mem_of_getElem? (i := 112) (by decide +kernel)) rfl
theorem wd_4_113 : (Jvm.Cond.static ({ cls := "AppendStoreModel", name := "in", desc := "(III)Z" } : Jvm.MethodName)) ∈ aw_ws := aw_t4 (List.mem_of_getElem? (i := 113) (by decide +kernel)) rfl
theorem wd_4_114 : (Jvm.Cond.code ({ cls := "AppendStoreModel", name := "in", desc := "(III)Z" } : Jvm.MethodName) prog_11_method_3_code (3 : Nat) (Option.some Jvm.ClassFile.FieldType.boolean)) ∈ aw_ws := aw_t4 (List.mem_of_getElem? (i := 114) (by decide +kernel)) rfl
theorem wd_4_115 : (Jvm.Cond.methodLink "AppendStoreModel" (81 : Nat) ({ cls := "AppendStoreModel", name := "lengthOf", desc := "(II)I" } : Jvm.MethodName)) ∈ aw_ws := aw_t4 (List.mem_of_getElem? (i := 115) (by decide +kernel)) rfl
theorem wd_4_116 : (Jvm.Cond.static ({ cls := "AppendStoreModel", name := "lengthOf", desc := "(II)I" } : Jvm.MethodName)) ∈ aw_ws := aw_t4 (List.mem_of_getElem? (i := 116) (by decide +kernel)) rfl
theorem wd_4_117 : (Jvm.Cond.code ({ cls := "AppendStoreModel", name := "lengthOf", desc := "(II)I" } : Jvm.MethodName) prog_11_method_9_code (2 : Nat) (Option.some Jvm.ClassFile.FieldType.int)) ∈ aw_ws := aw_t4 (List.mem_of_getElem? (i := 117) (by decide +kernel)) rfl
theorem wd_4_118 : (Jvm.Cond.methodLink "AppendStoreModel" (140 : Nat) ({ cls := "AppendStoreModel", name := "full", desc := "(I)Z" } : Jvm.MethodName)) ∈ aw_ws := aw_t4 (List.mem_of_getElem? (i := 118) (by decide +kernel)) rfl
theorem wd_4_120 : (Jvm.Cond.instanceMethod ({ cls := "AppendStoreModel", name := "full", desc := "(I)Z" } : Jvm.MethodName)) ∈ aw_ws := aw_t4 (List.mem_of_getElem? (i := 120) (by decide +kernel)) rfl
theorem wd_4_121 : (Jvm.Cond.code ({ cls := "AppendStoreModel", name := "full", desc := "(I)Z" } : Jvm.MethodName) prog_11_method_22_code (2 : Nat) (Option.some Jvm.ClassFile.FieldType.boolean)) ∈ aw_ws := aw_t4 (List.mem_of_getElem? (i := 121) (by decide +kernel)) rfl
theorem wd_4_122 : (Jvm.Cond.methodLink "AppendStoreModel" (144 : Nat) ({ cls := "AppendStoreModel", name := "append", desc := "(JIJI)V" } : Jvm.MethodName)) ∈ aw_ws := aw_t4 (List.mem_of_getElem? (i := 122) (by decide +kernel)) rfl
theorem wd_4_124 : (Jvm.Cond.instanceMethod ({ cls := "AppendStoreModel", name := "append", desc := "(JIJI)V" } : Jvm.MethodName)) ∈ aw_ws := aw_t4 (List.mem_of_getElem? (i := 124) (by decide +kernel)) rfl
theorem wd_4_125 : (Jvm.Cond.code ({ cls := "AppendStoreModel", name := "append", desc := "(JIJI)V" } : Jvm.MethodName) prog_11_method_25_code (13 : Nat) (Option.none : Option Jvm.ClassFile.FieldType)) ∈ aw_ws := aw_t4 (List.mem_of_getElem? (i := 125) (by decide +kernel)) rfl
theorem wd_4_126 : (Jvm.Cond.methodLink "AppendStoreModel" (110 : Nat) ({ cls := "AppendStoreModel", name := "clearRow", desc := "(I)V" } : Jvm.MethodName)) ∈ aw_ws := aw_t4 (List.mem_of_getElem? (i := 126) (by decide +kernel)) rfl
theorem wd_4_128 : (Jvm.Cond.instanceMethod ({ cls := "AppendStoreModel", name := "clearRow", desc := "(I)V" } : Jvm.MethodName)) ∈ aw_ws := aw_t4 (List.mem_of_getElem? (i := 128) (by decide +kernel)) rfl
theorem wd_4_129 : (Jvm.Cond.code ({ cls := "AppendStoreModel", name := "clearRow", desc := "(I)V" } : Jvm.MethodName) prog_11_method_12_code (2 : Nat) (Option.none : Option Jvm.ClassFile.FieldType)) ∈ aw_ws := aw_t4 (List.mem_of_getElem? (i := 129) (by decide +kernel)) rfl
theorem wd_4_130 : (Jvm.Cond.methodLink "AppendStoreModel" (117 : Nat) ({ cls := "AppendStoreModel", name := "note", desc := "(IIII)V" } : Jvm.MethodName)) ∈ aw_ws := aw_t4 (List.mem_of_getElem? (i := 130) (by decide +kernel)) rfl
theorem wd_4_132 : (Jvm.Cond.instanceMethod ({ cls := "AppendStoreModel", name := "note", desc := "(IIII)V" } : Jvm.MethodName)) ∈ aw_ws := aw_t4 (List.mem_of_getElem? (i := 132) (by decide +kernel)) rfl
theorem wd_4_133 : (Jvm.Cond.code ({ cls := "AppendStoreModel", name := "note", desc := "(IIII)V" } : Jvm.MethodName) prog_11_method_11_code (6 : Nat) (Option.none : Option Jvm.ClassFile.FieldType)) ∈ aw_ws := aw_t4 (List.mem_of_getElem? (i := 133) (by decide +kernel)) rfl
theorem wd_4_134 : (Jvm.Cond.methodLink "AppendStoreModel" (121 : Nat) ({ cls := "AppendStoreModel", name := "putNumber", desc := "(IJI)V" } : Jvm.MethodName)) ∈ aw_ws := aw_t4 (List.mem_of_getElem? (i := 134) (by decide +kernel)) rfl
theorem wd_4_136 : (Jvm.Cond.instanceMethod ({ cls := "AppendStoreModel", name := "putNumber", desc := "(IJI)V" } : Jvm.MethodName)) ∈ aw_ws := aw_t4 (List.mem_of_getElem? (i := 136) (by decide +kernel)) rfl
theorem wd_4_137 : (Jvm.Cond.code ({ cls := "AppendStoreModel", name := "putNumber", desc := "(IJI)V" } : Jvm.MethodName) prog_11_method_24_code (6 : Nat) (Option.none : Option Jvm.ClassFile.FieldType)) ∈ aw_ws := aw_t4 (List.mem_of_getElem? (i := 137) (by decide +kernel)) rfl
theorem wd_4_138 : (Jvm.Cond.constantLong "AppendStoreModel" (79 : Nat) (255 : Int64)) ∈ aw_ws := aw_t4 (List.mem_of_getElem? (i := 138) (by decide +kernel)) rfl
theorem wd_4_139 : (Jvm.Cond.methodLink "AppendStoreModel" (106 : Nat) ({ cls := "AppendStoreModel", name := "putByte", desc := "(II)V" } : Jvm.MethodName)) ∈ aw_ws := aw_t4 (List.mem_of_getElem? (i := 139) (by decide +kernel)) rfl
theorem wd_4_141 : (Jvm.Cond.instanceMethod ({ cls := "AppendStoreModel", name := "putByte", desc := "(II)V" } : Jvm.MethodName)) ∈ aw_ws := aw_t4 (List.mem_of_getElem? (i := 141) (by decide +kernel)) rfl
theorem wd_4_142 : (Jvm.Cond.code ({ cls := "AppendStoreModel", name := "putByte", desc := "(II)V" } : Jvm.MethodName) prog_11_method_23_code (3 : Nat) (Option.none : Option Jvm.ClassFile.FieldType)) ∈ aw_ws := aw_t4 (List.mem_of_getElem? (i := 142) (by decide +kernel)) rfl
theorem wd_4_143 : (Jvm.Cond.methodLink "AppendStoreModel" (128 : Nat) ({ cls := "AppendStoreModel", name := "sumOf", desc := "([III)J" } : Jvm.MethodName)) ∈ aw_ws := aw_t4 (List.mem_of_getElem? (i := 143) (by decide +kernel)) rfl
theorem wd_4_144 : (Jvm.Cond.static ({ cls := "AppendStoreModel", name := "sumOf", desc := "([III)J" } : Jvm.MethodName)) ∈ aw_ws := aw_t4 (List.mem_of_getElem? (i := 144) (by decide +kernel)) rfl
theorem wd_4_145 : (Jvm.Cond.code ({ cls := "AppendStoreModel", name := "sumOf", desc := "([III)J" } : Jvm.MethodName) prog_11_method_6_code (6 : Nat) (Option.some Jvm.ClassFile.FieldType.long)) ∈ aw_ws := aw_t4 (List.mem_of_getElem? (i := 145) (by decide +kernel)) rfl
theorem wd_4_146 : (Jvm.Cond.constantLong "AppendStoreModel" (71 : Nat) (4294967295 : Int64)) ∈ aw_ws := aw_t4 (List.mem_of_getElem? (i := 146) (by decide +kernel)) rfl
theorem wd_4_147 : (Jvm.Cond.methodLink "AppendStoreModel" (73 : Nat) ({ cls := "AppendStoreModel", name := "summed", desc := "(JI)J" } : Jvm.MethodName)) ∈ aw_ws := aw_t4 (List.mem_of_getElem? (i := 147) (by decide +kernel)) rfl
theorem wd_4_148 : (Jvm.Cond.static ({ cls := "AppendStoreModel", name := "summed", desc := "(JI)J" } : Jvm.MethodName)) ∈ aw_ws := aw_t4 (List.mem_of_getElem? (i := 148) (by decide +kernel)) rfl
theorem wd_4_149 : (Jvm.Cond.code ({ cls := "AppendStoreModel", name := "summed", desc := "(JI)J" } : Jvm.MethodName) prog_11_method_5_code (6 : Nat) (Option.some Jvm.ClassFile.FieldType.long)) ∈ aw_ws := aw_t4 (List.mem_of_getElem? (i := 149) (by decide +kernel)) rfl
theorem wd_4_150 : (Jvm.Cond.constantLong "AppendStoreModel" (67 : Nat) (2 : Int64)) ∈ aw_ws := aw_t4 (List.mem_of_getElem? (i := 150) (by decide +kernel)) rfl
theorem wd_4_151 : (Jvm.Cond.constantLong "AppendStoreModel" (69 : Nat) (3988292384 : Int64)) ∈ aw_ws := aw_t4 (List.mem_of_getElem? (i := 151) (by decide +kernel)) rfl
theorem wd_4_152 : (Jvm.Cond.constant "AppendStoreModel" (132 : Nat) (65536 : Int32)) ∈ aw_ws := aw_t4 (List.mem_of_getElem? (i := 152) (by decide +kernel)) rfl
theorem wd_4_153 : (Jvm.Cond.methodLink "AppendStoreModel" (148 : Nat) ({ cls := "AppendStoreModel", name := "cut", desc := "(JI)J" } : Jvm.MethodName)) ∈ aw_ws := aw_t4 (List.mem_of_getElem? (i := 153) (by decide +kernel)) rfl
theorem wd_4_154 : (Jvm.Cond.static ({ cls := "AppendStoreModel", name := "cut", desc := "(JI)J" } : Jvm.MethodName)) ∈ aw_ws := aw_t4 (List.mem_of_getElem? (i := 154) (by decide +kernel)) rfl
theorem wd_4_155 : (Jvm.Cond.code ({ cls := "AppendStoreModel", name := "cut", desc := "(JI)J" } : Jvm.MethodName) prog_11_method_8_code (6 : Nat) (Option.some Jvm.ClassFile.FieldType.long)) ∈ aw_ws := aw_t4 (List.mem_of_getElem? (i := 155) (by decide +kernel)) rfl
theorem wd_4_156 : (Jvm.Cond.methodLink "AppendStoreModel" (151 : Nat) ({ cls := "AppendStoreModel", name := "set", desc := "(JIII)V" } : Jvm.MethodName)) ∈ aw_ws := aw_t4 (List.mem_of_getElem? (i := 156) (by decide +kernel)) rfl
theorem wd_4_158 : (Jvm.Cond.instanceMethod ({ cls := "AppendStoreModel", name := "set", desc := "(JIII)V" } : Jvm.MethodName)) ∈ aw_ws := aw_t4 (List.mem_of_getElem? (i := 158) (by decide +kernel)) rfl
theorem wd_4_159 : (Jvm.Cond.code ({ cls := "AppendStoreModel", name := "set", desc := "(JIII)V" } : Jvm.MethodName) prog_11_method_15_code (7 : Nat) (Option.none : Option Jvm.ClassFile.FieldType)) ∈ aw_ws := aw_t4 (List.mem_of_getElem? (i := 159) (by decide +kernel)) rfl
theorem wd_4_160 : (Jvm.Cond.methodLink "AppendStoreModel" (88 : Nat) ({ cls := "AppendStoreModel", name := "find", desc := "(JI)I" } : Jvm.MethodName)) ∈ aw_ws := aw_t4 (List.mem_of_getElem? (i := 160) (by decide +kernel)) rfl
theorem wd_4_162 : (Jvm.Cond.instanceMethod ({ cls := "AppendStoreModel", name := "find", desc := "(JI)I" } : Jvm.MethodName)) ∈ aw_ws := aw_t4 (List.mem_of_getElem? (i := 162) (by decide +kernel)) rfl
theorem wd_4_163 : (Jvm.Cond.code ({ cls := "AppendStoreModel", name := "find", desc := "(JI)I" } : Jvm.MethodName) prog_11_method_14_code (5 : Nat) (Option.some Jvm.ClassFile.FieldType.int)) ∈ aw_ws := aw_t4 (List.mem_of_getElem? (i := 163) (by decide +kernel)) rfl
theorem wd_4_168 : (Jvm.Cond.methodLink "AppendStoreModel" (155 : Nat) ({ cls := "AppendStoreModel", name := "unset", desc := "(JI)V" } : Jvm.MethodName)) ∈ aw_ws := aw_t4 (List.mem_of_getElem? (i := 168) (by decide +kernel)) rfl
theorem wd_4_170 : (Jvm.Cond.instanceMethod ({ cls := "AppendStoreModel", name := "unset", desc := "(JI)V" } : Jvm.MethodName)) ∈ aw_ws := aw_t4 (List.mem_of_getElem? (i := 170) (by decide +kernel)) rfl
theorem wd_4_171 : (Jvm.Cond.code ({ cls := "AppendStoreModel", name := "unset", desc := "(JI)V" } : Jvm.MethodName) prog_11_method_16_code (5 : Nat) (Option.none : Option Jvm.ClassFile.FieldType)) ∈ aw_ws := aw_t4 (List.mem_of_getElem? (i := 171) (by decide +kernel)) rfl
theorem wd_4_176 : (Jvm.Cond.methodLink "AppendStoreModel" (159 : Nat) ({ cls := "AppendStoreModel", name := "fail", desc := "(I)I" } : Jvm.MethodName)) ∈ aw_ws := aw_t4 (List.mem_of_getElem? (i := 176) (by decide +kernel)) rfl
theorem wd_4_178 : (Jvm.Cond.instanceMethod ({ cls := "AppendStoreModel", name := "fail", desc := "(I)I" } : Jvm.MethodName)) ∈ aw_ws := aw_t4 (List.mem_of_getElem? (i := 178) (by decide +kernel)) rfl
theorem wd_4_179 : (Jvm.Cond.code ({ cls := "AppendStoreModel", name := "fail", desc := "(I)I" } : Jvm.MethodName) prog_11_method_4_code (2 : Nat) (Option.some Jvm.ClassFile.FieldType.int)) ∈ aw_ws := aw_t4 (List.mem_of_getElem? (i := 179) (by decide +kernel)) rfl
theorem wd_4_180 : (Jvm.Cond.methodLink "AppendStoreModel" (163 : Nat) ({ cls := "AppendStoreModel", name := "rowOf", desc := "(I)I" } : Jvm.MethodName)) ∈ aw_ws := aw_t4 (List.mem_of_getElem? (i := 180) (by decide +kernel)) rfl
theorem wd_4_182 : (Jvm.Cond.instanceMethod ({ cls := "AppendStoreModel", name := "rowOf", desc := "(I)I" } : Jvm.MethodName)) ∈ aw_ws := aw_t4 (List.mem_of_getElem? (i := 182) (by decide +kernel)) rfl
theorem wd_4_183 : (Jvm.Cond.code ({ cls := "AppendStoreModel", name := "rowOf", desc := "(I)I" } : Jvm.MethodName) prog_11_method_18_code (3 : Nat) (Option.some Jvm.ClassFile.FieldType.int)) ∈ aw_ws := aw_t4 (List.mem_of_getElem? (i := 183) (by decide +kernel)) rfl
theorem wd_4_184 : (Jvm.Cond.methodLink "AppendStoreModel" (166 : Nat) ({ cls := "AppendStoreModel", name := "length", desc := "(II)I" } : Jvm.MethodName)) ∈ aw_ws := aw_t4 (List.mem_of_getElem? (i := 184) (by decide +kernel)) rfl
theorem wd_4_186 : (Jvm.Cond.instanceMethod ({ cls := "AppendStoreModel", name := "length", desc := "(II)I" } : Jvm.MethodName)) ∈ aw_ws := aw_t4 (List.mem_of_getElem? (i := 186) (by decide +kernel)) rfl
theorem wd_4_187 : (Jvm.Cond.code ({ cls := "AppendStoreModel", name := "length", desc := "(II)I" } : Jvm.MethodName) prog_11_method_10_code (3 : Nat) (Option.some Jvm.ClassFile.FieldType.int)) ∈ aw_ws := aw_t4 (List.mem_of_getElem? (i := 187) (by decide +kernel)) rfl
theorem wd_4_188 : (Jvm.Cond.methodLink "AppendStoreModel" (169 : Nat) ({ cls := "AppendStoreModel", name := "numberIn", desc := "([III)J" } : Jvm.MethodName)) ∈ aw_ws := aw_t4 (List.mem_of_getElem? (i := 188) (by decide +kernel)) rfl
theorem wd_4_189 : (Jvm.Cond.static ({ cls := "AppendStoreModel", name := "numberIn", desc := "([III)J" } : Jvm.MethodName)) ∈ aw_ws := aw_t4 (List.mem_of_getElem? (i := 189) (by decide +kernel)) rfl
theorem wd_4_190 : (Jvm.Cond.code ({ cls := "AppendStoreModel", name := "numberIn", desc := "([III)J" } : Jvm.MethodName) prog_11_method_7_code (6 : Nat) (Option.some Jvm.ClassFile.FieldType.long)) ∈ aw_ws := aw_t4 (List.mem_of_getElem? (i := 190) (by decide +kernel)) rfl
theorem wd_4_191 : (Jvm.Cond.constantLong "AppendStoreModel" (77 : Nat) (256 : Int64)) ∈ aw_ws := aw_t4 (List.mem_of_getElem? (i := 191) (by decide +kernel)) rfl
theorem wd_4_200 : (Jvm.Cond.methodLink "AppendStoreModel" (172 : Nat) ({ cls := "AppendStoreModel", name := "ordered", desc := "(I)I" } : Jvm.MethodName)) ∈ aw_ws := aw_t4 (List.mem_of_getElem? (i := 200) (by decide +kernel)) rfl
theorem wd_4_202 : (Jvm.Cond.instanceMethod ({ cls := "AppendStoreModel", name := "ordered", desc := "(I)I" } : Jvm.MethodName)) ∈ aw_ws := aw_t4 (List.mem_of_getElem? (i := 202) (by decide +kernel)) rfl
theorem wd_4_203 : (Jvm.Cond.code ({ cls := "AppendStoreModel", name := "ordered", desc := "(I)I" } : Jvm.MethodName) prog_11_method_20_code (5 : Nat) (Option.some Jvm.ClassFile.FieldType.int)) ∈ aw_ws := aw_t4 (List.mem_of_getElem? (i := 203) (by decide +kernel)) rfl
theorem wd_4_204 : (Jvm.Cond.methodLink "AppendStoreModel" (92 : Nat) ({ cls := "AppendStoreModel", name := "comesBefore", desc := "(II)Z" } : Jvm.MethodName)) ∈ aw_ws := aw_t4 (List.mem_of_getElem? (i := 204) (by decide +kernel)) rfl
theorem wd_4_206 : (Jvm.Cond.instanceMethod ({ cls := "AppendStoreModel", name := "comesBefore", desc := "(II)Z" } : Jvm.MethodName)) ∈ aw_ws := aw_t4 (List.mem_of_getElem? (i := 206) (by decide +kernel)) rfl
theorem wd_4_207 : (Jvm.Cond.code ({ cls := "AppendStoreModel", name := "comesBefore", desc := "(II)Z" } : Jvm.MethodName) prog_11_method_21_code (4 : Nat) (Option.some Jvm.ClassFile.FieldType.boolean)) ∈ aw_ws := aw_t4 (List.mem_of_getElem? (i := 207) (by decide +kernel)) rfl
theorem wd_4_208 : (Jvm.Cond.methodLink "AppendStoreModel" (96 : Nat) ({ cls := "AppendStoreModel", name := "letter", desc := "(II)I" } : Jvm.MethodName)) ∈ aw_ws := aw_t4 (List.mem_of_getElem? (i := 208) (by decide +kernel)) rfl
theorem wd_4_210 : (Jvm.Cond.instanceMethod ({ cls := "AppendStoreModel", name := "letter", desc := "(II)I" } : Jvm.MethodName)) ∈ aw_ws := aw_t4 (List.mem_of_getElem? (i := 210) (by decide +kernel)) rfl
theorem wd_4_211 : (Jvm.Cond.code ({ cls := "AppendStoreModel", name := "letter", desc := "(II)I" } : Jvm.MethodName) prog_11_method_19_code (3 : Nat) (Option.some Jvm.ClassFile.FieldType.int)) ∈ aw_ws := aw_t4 (List.mem_of_getElem? (i := 211) (by decide +kernel)) rfl
theorem wd_4_224 : (Jvm.Cond.methodLink "AppendStoreModel" (181 : Nat) ({ cls := "AppendStoreModel", name := "tells", desc := "(I)Z" } : Jvm.MethodName)) ∈ aw_ws := aw_t4 (List.mem_of_getElem? (i := 224) (by decide +kernel)) rfl
theorem wd_4_226 : (Jvm.Cond.instanceMethod ({ cls := "AppendStoreModel", name := "tells", desc := "(I)Z" } : Jvm.MethodName)) ∈ aw_ws := aw_t4 (List.mem_of_getElem? (i := 226) (by decide +kernel)) rfl
theorem wd_4_227 : (Jvm.Cond.code ({ cls := "AppendStoreModel", name := "tells", desc := "(I)Z" } : Jvm.MethodName) prog_11_method_33_code (8 : Nat) (Option.some Jvm.ClassFile.FieldType.boolean)) ∈ aw_ws := aw_t4 (List.mem_of_getElem? (i := 227) (by decide +kernel)) rfl
theorem wd_4_228 : (Jvm.Cond.methodLink "AppendStoreModel" (184 : Nat) ({ cls := "AppendStoreModel", name := "openHint", desc := "(I)V" } : Jvm.MethodName)) ∈ aw_ws := aw_t4 (List.mem_of_getElem? (i := 228) (by decide +kernel)) rfl
theorem wd_4_230 : (Jvm.Cond.instanceMethod ({ cls := "AppendStoreModel", name := "openHint", desc := "(I)V" } : Jvm.MethodName)) ∈ aw_ws := aw_t4 (List.mem_of_getElem? (i := 230) (by decide +kernel)) rfl
theorem wd_4_231 : (Jvm.Cond.code ({ cls := "AppendStoreModel", name := "openHint", desc := "(I)V" } : Jvm.MethodName) prog_11_method_36_code (5 : Nat) (Option.none : Option Jvm.ClassFile.FieldType)) ∈ aw_ws := aw_t4 (List.mem_of_getElem? (i := 231) (by decide +kernel)) rfl
theorem wd_4_232 : (Jvm.Cond.methodLink "AppendStoreModel" (187 : Nat) ({ cls := "AppendStoreModel", name := "openRecords", desc := "(I)V" } : Jvm.MethodName)) ∈ aw_ws := aw_t4 (List.mem_of_getElem? (i := 232) (by decide +kernel)) rfl
theorem wd_4_234 : (Jvm.Cond.instanceMethod ({ cls := "AppendStoreModel", name := "openRecords", desc := "(I)V" } : Jvm.MethodName)) ∈ aw_ws := aw_t4 (List.mem_of_getElem? (i := 234) (by decide +kernel)) rfl
theorem wd_4_235 : (Jvm.Cond.code ({ cls := "AppendStoreModel", name := "openRecords", desc := "(I)V" } : Jvm.MethodName) prog_11_method_35_code (7 : Nat) (Option.none : Option Jvm.ClassFile.FieldType)) ∈ aw_ws := aw_t4 (List.mem_of_getElem? (i := 235) (by decide +kernel)) rfl
theorem wd_4_236 : (Jvm.Cond.methodLink "AppendStoreModel" (178 : Nat) ({ cls := "AppendStoreModel", name := "isRecord", desc := "(II)Z" } : Jvm.MethodName)) ∈ aw_ws := aw_t4 (List.mem_of_getElem? (i := 236) (by decide +kernel)) rfl
theorem wd_4_238 : (Jvm.Cond.instanceMethod ({ cls := "AppendStoreModel", name := "isRecord", desc := "(II)Z" } : Jvm.MethodName)) ∈ aw_ws := aw_t4 (List.mem_of_getElem? (i := 238) (by decide +kernel)) rfl
theorem wd_4_239 : (Jvm.Cond.code ({ cls := "AppendStoreModel", name := "isRecord", desc := "(II)Z" } : Jvm.MethodName) prog_11_method_34_code (7 : Nat) (Option.some Jvm.ClassFile.FieldType.boolean)) ∈ aw_ws := aw_t4 (List.mem_of_getElem? (i := 239) (by decide +kernel)) rfl
theorem wd_5_4 : (Jvm.Cond.methodLink "AppendStoreModel" (205 : Nat) ({ cls := "AppendStoreModel", name := "skip", desc := "()V" } : Jvm.MethodName)) ∈ aw_ws := aw_t5 (List.mem_of_getElem? (i := 4) (by decide +kernel)) rfl
theorem wd_5_6 : (Jvm.Cond.instanceMethod ({ cls := "AppendStoreModel", name := "skip", desc := "()V" } : Jvm.MethodName)) ∈ aw_ws := aw_t5 (List.mem_of_getElem? (i := 6) (by decide +kernel)) rfl
theorem wd_5_7 : (Jvm.Cond.code ({ cls := "AppendStoreModel", name := "skip", desc := "()V" } : Jvm.MethodName) prog_11_method_38_code (1 : Nat) (Option.none : Option Jvm.ClassFile.FieldType)) ∈ aw_ws := aw_t5 (List.mem_of_getElem? (i := 7) (by decide +kernel)) rfl
theorem wd_5_8 : (Jvm.Cond.methodLink "AppendStoreModel" (215 : Nat) ({ cls := "AppendStoreModel", name := "comeToNext", desc := "()V" } : Jvm.MethodName)) ∈ aw_ws := aw_t5 (List.mem_of_getElem? (i := 8) (by decide +kernel)) rfl
theorem wd_5_10 : (Jvm.Cond.instanceMethod ({ cls := "AppendStoreModel", name := "comeToNext", desc := "()V" } : Jvm.MethodName)) ∈ aw_ws := aw_t5 (List.mem_of_getElem? (i := 10) (by decide +kernel)) rfl
theorem wd_5_11 : (Jvm.Cond.code ({ cls := "AppendStoreModel", name := "comeToNext", desc := "()V" } : Jvm.MethodName) prog_11_method_39_code (6 : Nat) (Option.none : Option Jvm.ClassFile.FieldType)) ∈ aw_ws := aw_t5 (List.mem_of_getElem? (i := 11) (by decide +kernel)) rfl
theorem wd_5_12 : (Jvm.Cond.methodLink "AppendStoreModel" (199 : Nat) ({ cls := "AppendStoreModel", name := "live", desc := "(II)I" } : Jvm.MethodName)) ∈ aw_ws := aw_t5 (List.mem_of_getElem? (i := 12) (by decide +kernel)) rfl
theorem wd_5_14 : (Jvm.Cond.instanceMethod ({ cls := "AppendStoreModel", name := "live", desc := "(II)I" } : Jvm.MethodName)) ∈ aw_ws := aw_t5 (List.mem_of_getElem? (i := 14) (by decide +kernel)) rfl
theorem wd_5_15 : (Jvm.Cond.code ({ cls := "AppendStoreModel", name := "live", desc := "(II)I" } : Jvm.MethodName) prog_11_method_17_code (4 : Nat) (Option.some Jvm.ClassFile.FieldType.int)) ∈ aw_ws := aw_t5 (List.mem_of_getElem? (i := 15) (by decide +kernel)) rfl
theorem wd_5_16 : (Jvm.Cond.methodLink "AppendStoreModel" (218 : Nat) ({ cls := "AppendStoreModel", name := "publish", desc := "()V" } : Jvm.MethodName)) ∈ aw_ws := aw_t5 (List.mem_of_getElem? (i := 16) (by decide +kernel)) rfl
theorem wd_5_18 : (Jvm.Cond.instanceMethod ({ cls := "AppendStoreModel", name := "publish", desc := "()V" } : Jvm.MethodName)) ∈ aw_ws := aw_t5 (List.mem_of_getElem? (i := 18) (by decide +kernel)) rfl
theorem wd_5_19 : (Jvm.Cond.code ({ cls := "AppendStoreModel", name := "publish", desc := "()V" } : Jvm.MethodName) prog_11_method_41_code (5 : Nat) (Option.none : Option Jvm.ClassFile.FieldType)) ∈ aw_ws := aw_t5 (List.mem_of_getElem? (i := 19) (by decide +kernel)) rfl
theorem wd_5_20 : (Jvm.Cond.constant "AppendStoreModel" (208 : Nat) (100000 : Int32)) ∈ aw_ws := aw_t5 (List.mem_of_getElem? (i := 20) (by decide +kernel)) rfl
theorem wd_5_21 : (Jvm.Cond.methodLink "AppendStoreModel" (209 : Nat) ({ cls := "AppendStoreModel", name := "makeHint", desc := "(I)V" } : Jvm.MethodName)) ∈ aw_ws := aw_t5 (List.mem_of_getElem? (i := 21) (by decide +kernel)) rfl
theorem wd_5_23 : (Jvm.Cond.instanceMethod ({ cls := "AppendStoreModel", name := "makeHint", desc := "(I)V" } : Jvm.MethodName)) ∈ aw_ws := aw_t5 (List.mem_of_getElem? (i := 23) (by decide +kernel)) rfl
theorem wd_5_24 : (Jvm.Cond.code ({ cls := "AppendStoreModel", name := "makeHint", desc := "(I)V" } : Jvm.MethodName) prog_11_method_40_code (7 : Nat) (Option.none : Option Jvm.ClassFile.FieldType)) ∈ aw_ws := aw_t5 (List.mem_of_getElem? (i := 24) (by decide +kernel)) rfl
theorem wd_5_25 : (Jvm.Cond.methodLink "AppendStoreModel" (212 : Nat) ({ cls := "AppendStoreModel", name := "copyRow", desc := "(II)V" } : Jvm.MethodName)) ∈ aw_ws := aw_t5 (List.mem_of_getElem? (i := 25) (by decide +kernel)) rfl
theorem wd_5_27 : (Jvm.Cond.instanceMethod ({ cls := "AppendStoreModel", name := "copyRow", desc := "(II)V" } : Jvm.MethodName)) ∈ aw_ws := aw_t5 (List.mem_of_getElem? (i := 27) (by decide +kernel)) rfl
theorem wd_5_28 : (Jvm.Cond.code ({ cls := "AppendStoreModel", name := "copyRow", desc := "(II)V" } : Jvm.MethodName) prog_11_method_13_code (4 : Nat) (Option.none : Option Jvm.ClassFile.FieldType)) ∈ aw_ws := aw_t5 (List.mem_of_getElem? (i := 28) (by decide +kernel)) rfl
theorem wd_5_37 : (Jvm.Cond.methodLink "AppendStoreModel" (221 : Nat) ({ cls := "AppendStoreModel", name := "liveIn", desc := "(I)I" } : Jvm.MethodName)) ∈ aw_ws := aw_t5 (List.mem_of_getElem? (i := 37) (by decide +kernel)) rfl
theorem wd_5_39 : (Jvm.Cond.instanceMethod ({ cls := "AppendStoreModel", name := "liveIn", desc := "(I)I" } : Jvm.MethodName)) ∈ aw_ws := aw_t5 (List.mem_of_getElem? (i := 39) (by decide +kernel)) rfl
theorem wd_5_40 : (Jvm.Cond.code ({ cls := "AppendStoreModel", name := "liveIn", desc := "(I)I" } : Jvm.MethodName) prog_11_method_45_code (4 : Nat) (Option.some Jvm.ClassFile.FieldType.int)) ∈ aw_ws := aw_t5 (List.mem_of_getElem? (i := 40) (by decide +kernel)) rfl
theorem wd_5_45 : (Jvm.Cond.methodLink "AppendStoreModel" (224 : Nat) ({ cls := "AppendStoreModel", name := "isByte", desc := "(IIZ)Z" } : Jvm.MethodName)) ∈ aw_ws := aw_t5 (List.mem_of_getElem? (i := 45) (by decide +kernel)) rfl
theorem wd_5_47 : (Jvm.Cond.instanceMethod ({ cls := "AppendStoreModel", name := "isByte", desc := "(IIZ)Z" } : Jvm.MethodName)) ∈ aw_ws := aw_t5 (List.mem_of_getElem? (i := 47) (by decide +kernel)) rfl
theorem wd_5_48 : (Jvm.Cond.code ({ cls := "AppendStoreModel", name := "isByte", desc := "(IIZ)Z" } : Jvm.MethodName) prog_11_method_46_code (4 : Nat) (Option.some Jvm.ClassFile.FieldType.boolean)) ∈ aw_ws := aw_t5 (List.mem_of_getElem? (i := 48) (by decide +kernel)) rfl
theorem au_A : ∀ w ∈ u_ws aR_A aT_A 5, w ∈ aw_ws := by
  intro w hw
  obtain ⟨k, hk, rfl⟩ := List.mem_map.mp hw
  have hk := List.mem_range.mp hk
  rcases (show k = 0 ∨ k = 1 ∨ k = 2 ∨ k = 3 ∨ k = 4 by omega) with rfl | rfl | rfl | rfl | rfl
  · exact wd_1_159
  · exact wd_1_161
  · exact wd_1_163
  · exact wd_1_165
  · exact wd_1_167
theorem ac_A : aw_C 0 := ⟨_, _, _, aY_A, rfl, aY_A_ok, aN_A⟩
theorem at_A (k : Nat) : (aT_A k).1 = aR_A := by unfold aT_A; split <;> rfl
theorem aw_T_of_A (k : Nat) (hk : k < 5) {fin : Bool} (hf : (aT_A k).2.2.2 = fin) : aw_T 0 k (aY_A k) fin := ⟨_, _, _, rfl, aY_A_ok k hk, hf, at_A k⟩
theorem au_D : ∀ w ∈ u_ws aR_D aT_D 2, w ∈ aw_ws := by
  intro w hw
  obtain ⟨k, hk, rfl⟩ := List.mem_map.mp hw
  have hk := List.mem_range.mp hk
  rcases (show k = 0 ∨ k = 1 by omega) with rfl | rfl
  · exact wd_1_125
  · exact wd_1_127
theorem ac_D : aw_C 1 := ⟨_, _, _, aY_D, rfl, aY_D_ok, aN_D⟩
theorem at_D (k : Nat) : (aT_D k).1 = aR_D := by unfold aT_D; split <;> rfl
theorem aw_T_of_D (k : Nat) (hk : k < 2) {fin : Bool} (hf : (aT_D k).2.2.2 = fin) : aw_T 1 k (aY_D k) fin := ⟨_, _, _, rfl, aY_D_ok k hk, hf, at_D k⟩
theorem au_G : ∀ w ∈ u_ws aR_G aT_G 5, w ∈ aw_ws := by
  intro w hw
  obtain ⟨k, hk, rfl⟩ := List.mem_map.mp hw
  have hk := List.mem_range.mp hk
  rcases (show k = 0 ∨ k = 1 ∨ k = 2 ∨ k = 3 ∨ k = 4 by omega) with rfl | rfl | rfl | rfl | rfl
  · exact wd_1_143
  · exact wd_1_145
  · exact wd_1_147
  · exact wd_1_149
  · exact wd_1_151
theorem ac_G : aw_C 2 := ⟨_, _, _, aY_G, rfl, aY_G_ok, aN_G⟩
theorem at_G (k : Nat) : (aT_G k).1 = aR_G := by unfold aT_G; split <;> rfl
theorem aw_T_of_G (k : Nat) (hk : k < 5) {fin : Bool} (hf : (aT_G k).2.2.2 = fin) : aw_T 2 k (aY_G k) fin := ⟨_, _, _, rfl, aY_G_ok k hk, hf, at_G k⟩
theorem au_O : ∀ w ∈ u_ws aR_O aT_O 2, w ∈ aw_ws := by
  intro w hw
  obtain ⟨k, hk, rfl⟩ := List.mem_map.mp hw
  have hk := List.mem_range.mp hk
  rcases (show k = 0 ∨ k = 1 by omega) with rfl | rfl
  · exact wd_1_47
  · exact wd_1_49
theorem ac_O : aw_C 3 := ⟨_, _, _, aY_O, rfl, aY_O_ok, aN_O⟩
theorem at_O (k : Nat) : (aT_O k).1 = aR_O := by unfold aT_O; split <;> rfl
theorem aw_T_of_O (k : Nat) (hk : k < 2) {fin : Bool} (hf : (aT_O k).2.2.2 = fin) : aw_T 3 k (aY_O k) fin := ⟨_, _, _, rfl, aY_O_ok k hk, hf, at_O k⟩
theorem au_R : ∀ w ∈ u_ws aR_R aT_R 5, w ∈ aw_ws := by
  intro w hw
  obtain ⟨k, hk, rfl⟩ := List.mem_map.mp hw
  have hk := List.mem_range.mp hk
  rcases (show k = 0 ∨ k = 1 ∨ k = 2 ∨ k = 3 ∨ k = 4 by omega) with rfl | rfl | rfl | rfl | rfl
  · exact wd_1_73
  · exact wd_1_75
  · exact wd_1_77
  · exact wd_1_79
  · exact wd_1_81
theorem ac_R : aw_C 4 := ⟨_, _, _, aY_R, rfl, aY_R_ok, aN_R⟩
theorem at_R (k : Nat) : (aT_R k).1 = aR_R := by unfold aT_R; split <;> rfl
theorem aw_T_of_R (k : Nat) (hk : k < 5) {fin : Bool} (hf : (aT_R k).2.2.2 = fin) : aw_T 4 k (aY_R k) fin := ⟨_, _, _, rfl, aY_R_ok k hk, hf, at_R k⟩
theorem au_S : ∀ w ∈ u_ws aR_S aT_S 4, w ∈ aw_ws := by
  intro w hw
  obtain ⟨k, hk, rfl⟩ := List.mem_map.mp hw
  have hk := List.mem_range.mp hk
  rcases (show k = 0 ∨ k = 1 ∨ k = 2 ∨ k = 3 by omega) with rfl | rfl | rfl | rfl
  · exact wd_1_107
  · exact wd_1_109
  · exact wd_1_111
  · exact wd_1_113
theorem ac_S : aw_C 5 := ⟨_, _, _, aY_S, rfl, aY_S_ok, aN_S⟩
theorem at_S (k : Nat) : (aT_S k).1 = aR_S := by unfold aT_S; split <;> rfl
theorem aw_T_of_S (k : Nat) (hk : k < 4) {fin : Bool} (hf : (aT_S k).2.2.2 = fin) : aw_T 5 k (aY_S k) fin := ⟨_, _, _, rfl, aY_S_ok k hk, hf, at_S k⟩
theorem au_F : ∀ w ∈ u_ws aR_F aT_F 6, w ∈ aw_ws := by
  intro w hw
  obtain ⟨k, hk, rfl⟩ := List.mem_map.mp hw
  have hk := List.mem_range.mp hk
  rcases (show k = 0 ∨ k = 1 ∨ k = 2 ∨ k = 3 ∨ k = 4 ∨ k = 5 by omega) with rfl | rfl | rfl | rfl | rfl | rfl
  · exact wd_1_90
  · exact wd_1_92
  · exact wd_1_94
  · exact wd_1_96
  · exact wd_1_98
  · exact wd_1_100
theorem ac_F : aw_C 6 := ⟨_, _, _, aY_F, rfl, aY_F_ok, aN_F⟩
theorem at_F (k : Nat) : (aT_F k).1 = aR_F := by unfold aT_F; split <;> rfl
theorem aw_T_of_F (k : Nat) (hk : k < 6) {fin : Bool} (hf : (aT_F k).2.2.2 = fin) : aw_T 6 k (aY_F k) fin := ⟨_, _, _, rfl, aY_F_ok k hk, hf, at_F k⟩
theorem au_M : ∀ w ∈ u_ws aR_M aT_M 29, w ∈ aw_ws := by
  intro w hw
  obtain ⟨k, hk, rfl⟩ := List.mem_map.mp hw
  have hk := List.mem_range.mp hk
  rcases (show k = 0 ∨ k = 1 ∨ k = 2 ∨ k = 3 ∨ k = 4 ∨ k = 5 ∨ k = 6 ∨ k = 7 ∨ k = 8 ∨ k = 9 ∨ k = 10 ∨ k = 11 ∨ k = 12 ∨ k = 13 ∨ k = 14 ∨ k = 15 ∨ k = 16 ∨ k = 17 ∨ k = 18 ∨ k = 19 ∨ k = 20 ∨ k = 21 ∨ k = 22 ∨ k = 23 ∨ k = 24 ∨ k = 25 ∨ k = 26 ∨ k = 27 ∨ k = 28 by omega) with rfl | rfl | rfl | rfl | rfl | rfl | rfl | rfl | rfl | rfl | rfl | rfl | rfl | rfl | rfl | rfl | rfl | rfl | rfl | rfl | rfl | rfl | rfl | rfl | rfl | rfl | rfl | rfl | rfl
  · exact wd_4_42
  · exact wd_4_44
  · exact wd_4_46
  · exact wd_4_48
  · exact wd_4_50
  · exact wd_4_52
  · exact wd_4_54
  · exact wd_4_56
  · exact wd_4_58
  · exact wd_4_60
  · exact wd_4_62
  · exact wd_4_64
  · exact wd_4_66
  · exact wd_4_68
  · exact wd_4_70
  · exact wd_4_72
  · exact wd_4_74
  · exact wd_4_76
  · exact wd_4_78
  · exact wd_4_80
  · exact wd_4_82
  · exact wd_4_84
  · exact wd_4_86
  · exact wd_4_88
  · exact wd_4_90
  · exact wd_4_92
  · exact wd_4_94
  · exact wd_4_96
  · exact wd_4_98
theorem ac_M : aw_C 7 := ⟨_, _, _, aY_M, rfl, aY_M_ok, aN_M⟩
theorem at_M (k : Nat) : (aT_M k).1 = aR_M := by unfold aT_M; split <;> rfl
theorem aw_T_of_M (k : Nat) (hk : k < 29) {fin : Bool} (hf : (aT_M k).2.2.2 = fin) : aw_T 7 k (aY_M k) fin := ⟨_, _, _, rfl, aY_M_ok k hk, hf, at_M k⟩
theorem fl_A_10 : aw_F aR_A 10 0 0 := ⟨_, _, _, rfl, by decide, au_A, Or.inl wd_1_154⟩
theorem fl_A_19 : aw_F aR_A 19 0 1 := ⟨_, _, _, rfl, by decide, au_A, Or.inl wd_1_155⟩
theorem fl_A_26 : aw_F aR_A 26 0 2 := ⟨_, _, _, rfl, by decide, au_A, Or.inl wd_1_156⟩
theorem fl_A_30 : aw_F aR_A 30 0 3 := ⟨_, _, _, rfl, by decide, au_A, Or.inl wd_1_157⟩
theorem fl_A_34 : aw_F aR_A 34 0 4 := ⟨_, _, _, rfl, by decide, au_A, Or.inl wd_1_158⟩
theorem fl_A_93 : aw_F aR_A 93 4 2 := ⟨_, _, _, rfl, by decide, au_R, Or.inl wd_1_67⟩
theorem fl_A_107 : aw_F aR_A 107 4 1 := ⟨_, _, _, rfl, by decide, au_R, Or.inl wd_1_63⟩
theorem fl_D_13 : aw_F aR_D 13 1 0 := ⟨_, _, _, rfl, by decide, au_D, Or.inl wd_1_123⟩
theorem fl_D_19 : aw_F aR_D 19 1 1 := ⟨_, _, _, rfl, by decide, au_D, Or.inl wd_1_124⟩
theorem fl_D_31 : aw_F aR_D 31 4 2 := ⟨_, _, _, rfl, by decide, au_R, Or.inl wd_1_66⟩
theorem fl_G_11 : aw_F aR_G 11 2 0 := ⟨_, _, _, rfl, by decide, au_G, Or.inl wd_1_138⟩
theorem fl_G_18 : aw_F aR_G 18 2 2 := ⟨_, _, _, rfl, by decide, au_G, Or.inl wd_1_140⟩
theorem fl_G_22 : aw_F aR_G 22 2 1 := ⟨_, _, _, rfl, by decide, au_G, Or.inl wd_1_139⟩
theorem fl_G_25 : aw_F aR_G 25 2 3 := ⟨_, _, _, rfl, by decide, au_G, Or.inl wd_1_141⟩
theorem fl_G_28 : aw_F aR_G 28 2 4 := ⟨_, _, _, rfl, by decide, au_G, Or.inl wd_1_142⟩
theorem fl_G_88 : aw_F aR_G 88 4 4 := ⟨_, _, _, rfl, by decide, au_R, Or.inl wd_1_71⟩
theorem fl_O_7 : aw_F aR_O 7 3 0 := ⟨_, _, _, rfl, by decide, au_O, Or.inl wd_1_45⟩
theorem fl_O_13 : aw_F aR_O 13 3 1 := ⟨_, _, _, rfl, by decide, au_O, Or.inl wd_1_46⟩
theorem fl_R_7 : aw_F aR_R 7 4 3 := ⟨_, _, _, rfl, by decide, au_R, Or.inl wd_1_69⟩
theorem fl_R_15 : aw_F aR_R 15 4 2 := ⟨_, _, _, rfl, by decide, au_R, Or.inl wd_1_65⟩
theorem fl_R_33 : aw_F aR_R 33 4 0 := ⟨_, _, _, rfl, by decide, au_R, Or.inl wd_1_60⟩
theorem fl_R_42 : aw_F aR_R 42 4 1 := ⟨_, _, _, rfl, by decide, au_R, Or.inl wd_1_62⟩
theorem fl_S_11 : aw_F aR_S 11 5 0 := ⟨_, _, _, rfl, by decide, au_S, Or.inl wd_1_103⟩
theorem fl_S_18 : aw_F aR_S 18 5 1 := ⟨_, _, _, rfl, by decide, au_S, Or.inl wd_1_104⟩
theorem fl_S_22 : aw_F aR_S 22 5 2 := ⟨_, _, _, rfl, by decide, au_S, Or.inl wd_1_105⟩
theorem fl_S_26 : aw_F aR_S 26 5 3 := ⟨_, _, _, rfl, by decide, au_S, Or.inl wd_1_106⟩
theorem fl_F_14 : aw_F aR_F 14 6 0 := ⟨_, _, _, rfl, by decide, au_F, Or.inl wd_1_84⟩
theorem fl_F_20 : aw_F aR_F 20 6 1 := ⟨_, _, _, rfl, by decide, au_F, Or.inl wd_1_85⟩
theorem fl_F_25 : aw_F aR_F 25 6 2 := ⟨_, _, _, rfl, by decide, au_F, Or.inl wd_1_86⟩
theorem fl_F_33 : aw_F aR_F 33 6 3 := ⟨_, _, _, rfl, by decide, au_F, Or.inl wd_1_87⟩
theorem fl_F_37 : aw_F aR_F 37 6 4 := ⟨_, _, _, rfl, by decide, au_F, Or.inl wd_1_88⟩
theorem fl_F_40 : aw_F aR_F 40 6 5 := ⟨_, _, _, rfl, by decide, au_F, Or.inl wd_1_89⟩
theorem fl_F_92 : aw_F aR_F 92 4 2 := ⟨_, _, _, rfl, by decide, au_R, Or.inl wd_1_68⟩
theorem fl_F_96 : aw_F aR_F 96 4 3 := ⟨_, _, _, rfl, by decide, au_R, Or.inl wd_1_70⟩
theorem fl_F_101 : aw_F aR_F 101 4 1 := ⟨_, _, _, rfl, by decide, au_R, Or.inl wd_1_64⟩
theorem fl_F_142 : aw_F aR_F 142 4 0 := ⟨_, _, _, rfl, by decide, au_R, Or.inl wd_1_61⟩
theorem fl_F_146 : aw_F aR_F 146 4 4 := ⟨_, _, _, rfl, by decide, au_R, Or.inl wd_1_72⟩
theorem fl_M_7 : aw_F aR_M 7 7 2 := ⟨_, _, _, rfl, by decide, au_M, Or.inl wd_4_15⟩
theorem fl_M_13 : aw_F aR_M 13 7 3 := ⟨_, _, _, rfl, by decide, au_M, Or.inl wd_4_16⟩
theorem fl_M_16 : aw_F aR_M 16 7 4 := ⟨_, _, _, rfl, by decide, au_M, Or.inl wd_4_17⟩
theorem fl_M_19 : aw_F aR_M 19 7 5 := ⟨_, _, _, rfl, by decide, au_M, Or.inl wd_4_18⟩
theorem fl_M_22 : aw_F aR_M 22 7 6 := ⟨_, _, _, rfl, by decide, au_M, Or.inl wd_4_19⟩
theorem fl_M_26 : aw_F aR_M 26 7 7 := ⟨_, _, _, rfl, by decide, au_M, Or.inl wd_4_20⟩
theorem fl_M_29 : aw_F aR_M 29 7 8 := ⟨_, _, _, rfl, by decide, au_M, Or.inl wd_4_21⟩
theorem fl_M_32 : aw_F aR_M 32 7 9 := ⟨_, _, _, rfl, by decide, au_M, Or.inl wd_4_22⟩
theorem fl_M_35 : aw_F aR_M 35 7 10 := ⟨_, _, _, rfl, by decide, au_M, Or.inl wd_4_23⟩
theorem fl_M_38 : aw_F aR_M 38 7 11 := ⟨_, _, _, rfl, by decide, au_M, Or.inl wd_4_24⟩
theorem fl_M_41 : aw_F aR_M 41 7 12 := ⟨_, _, _, rfl, by decide, au_M, Or.inl wd_4_25⟩
theorem fl_M_44 : aw_F aR_M 44 7 13 := ⟨_, _, _, rfl, by decide, au_M, Or.inl wd_4_26⟩
theorem fl_M_47 : aw_F aR_M 47 7 14 := ⟨_, _, _, rfl, by decide, au_M, Or.inl wd_4_27⟩
theorem fl_M_50 : aw_F aR_M 50 7 16 := ⟨_, _, _, rfl, by decide, au_M, Or.inl wd_4_29⟩
theorem fl_M_54 : aw_F aR_M 54 7 17 := ⟨_, _, _, rfl, by decide, au_M, Or.inl wd_4_30⟩
theorem fl_M_57 : aw_F aR_M 57 7 18 := ⟨_, _, _, rfl, by decide, au_M, Or.inl wd_4_31⟩
theorem fl_M_60 : aw_F aR_M 60 7 19 := ⟨_, _, _, rfl, by decide, au_M, Or.inl wd_4_32⟩
theorem fl_M_63 : aw_F aR_M 63 7 0 := ⟨_, _, _, rfl, by decide, au_M, Or.inl wd_4_13⟩
theorem fl_M_85 : aw_F aR_M 85 7 15 := ⟨_, _, _, rfl, by decide, au_M, Or.inl wd_4_28⟩
theorem fl_M_99 : aw_F aR_M 99 7 1 := ⟨_, _, _, rfl, by decide, au_M, Or.inl wd_4_14⟩
theorem fl_M_102 : aw_F aR_M 102 7 20 := ⟨_, _, _, rfl, by decide, au_M, Or.inl wd_4_33⟩
theorem fl_M_114 : aw_F aR_M 114 7 22 := ⟨_, _, _, rfl, by decide, au_M, Or.inl wd_4_35⟩
theorem fl_M_125 : aw_F aR_M 125 7 23 := ⟨_, _, _, rfl, by decide, au_M, Or.inl wd_4_36⟩
theorem fl_M_137 : aw_F aR_M 137 7 21 := ⟨_, _, _, rfl, by decide, au_M, Or.inl wd_4_34⟩
theorem fl_M_175 : aw_F aR_M 175 7 24 := ⟨_, _, _, rfl, by decide, au_M, Or.inl wd_4_37⟩
theorem fl_M_190 : aw_F aR_M 190 7 26 := ⟨_, _, _, rfl, by decide, au_M, Or.inl wd_4_39⟩
theorem fl_M_193 : aw_F aR_M 193 7 25 := ⟨_, _, _, rfl, by decide, au_M, Or.inl wd_4_38⟩
theorem fl_M_196 : aw_F aR_M 196 7 27 := ⟨_, _, _, rfl, by decide, au_M, Or.inl wd_4_40⟩
theorem fl_M_202 : aw_F aR_M 202 7 28 := ⟨_, _, _, rfl, by decide, au_M, Or.inl wd_4_41⟩
theorem lk_A_9 : aw_L aR_A 9 y_S_init := Or.inl wd_1_28
theorem lk_A_18 : aw_L aR_A 18 y_D_init := Or.inl wd_1_118
theorem lk_A_25 : aw_L aR_A 25 y_G_init := Or.inl wd_1_132
theorem lk_A_40 : aw_L aR_A 40 y_A_checkRange := Or.inl wd_2_82
theorem lk_A_44 : aw_L aR_A 44 y_A_checkOpen := Or.inl wd_2_153
theorem lk_A_47 : aw_L aR_A 47 y_K_rank := Or.inl wd_2_173
theorem lk_A_53 : aw_L aR_A 53 y_A_append := Or.inl wd_2_174
theorem lk_A_57 : aw_L aR_A 57 y_D_find := Or.inl wd_3_15
theorem lk_A_68 : aw_L aR_A 68 y_R_isBroken := Or.inl wd_3_43
theorem lk_A_79 : aw_L aR_A 79 y_R_value := Or.inl wd_3_59
theorem lk_A_83 : aw_L aR_A 83 y_D_count := Or.inl wd_2_64
theorem lk_A_87 : aw_L aR_A 87 y_D_at := Or.inl wd_3_80
theorem lk_A_96 : aw_L aR_A 96 y_K_size := Or.inl wd_2_178
theorem lk_A_100 : aw_L aR_A 100 y_K_number := Or.inl wd_3_82
theorem lk_A_104 : aw_L aR_A 104 y_R_fileNumber := Or.inl wd_3_83
theorem lk_A_110 : aw_L aR_A 110 y_S_syncActive := Or.inl wd_3_98
theorem lk_A_113 : aw_L aR_A 113 y_S_losePower := Or.inl wd_3_106
theorem lk_A_117 : aw_L aR_A 117 y_G_drop := Or.inl wd_1_174
theorem lk_A_120 : aw_L aR_A 120 y_D_clear := Or.inl wd_1_178
theorem lk_A_123 : aw_L aR_A 123 y_S_sealActive := Or.inl wd_1_182
theorem lk_A_126 : aw_L aR_A 126 y_S_count := Or.inl wd_1_198
theorem lk_A_127 : aw_L aR_A 127 y_S_at := Or.inl wd_1_202
theorem lk_A_130 : aw_L aR_A 130 y_F_learn := Or.inl wd_1_206
theorem lk_A_136 : aw_L aR_A 136 y_A_enter := Or.inl wd_2_28
theorem lk_A_140 : aw_L aR_A 140 y_G_goesOn := Or.inl wd_3_121
theorem lk_A_143 : aw_L aR_A 143 y_S_sealedCount := Or.inl wd_3_125
theorem lk_A_151 : aw_L aR_A 151 y_G_begin := Or.inl wd_3_130
theorem lk_A_154 : aw_L aR_A 154 y_G_advance := Or.inl wd_3_134
theorem lk_A_158 : aw_L aR_A 158 y_G_cameToAll := Or.inl wd_3_170
theorem lk_A_162 : aw_L aR_A 162 y_G_publish := Or.inl wd_3_171
theorem lk_A_171 : aw_L aR_A 171 y_F_number := Or.inl wd_3_208
theorem lk_A_173 : aw_L aR_A 173 y_F_bytes := Or.inl wd_3_209
theorem lk_A_177 : aw_L aR_A 177 y_O_size := Or.inl wd_3_210
theorem lk_A_181 : aw_L aR_A 181 y_F_synced := Or.inl wd_3_211
theorem lk_A_184 : aw_L aR_A 184 y_F_liveBytes := Or.inl wd_3_215
theorem lk_A_188 : aw_L aR_A 188 y_F_hint := Or.inl wd_3_221
theorem lk_A_191 : aw_L aR_A 191 y_A_rowWith := Or.inl wd_3_232
theorem lk_A_195 : aw_L aR_A 195 y_O_at := Or.inl wd_3_238
theorem lk_A_198 : aw_L aR_A 198 y_O_set := Or.inl wd_4_6
theorem lk_A_206 : aw_L aR_A 206 y_O_has := Or.inl wd_3_236
theorem lk_A_212 : aw_L aR_A 212 y_Y_recordBytes := Or.inl wd_2_182
theorem lk_A_216 : aw_L aR_A 216 y_S_withRoomFor := Or.inl wd_2_183
theorem lk_A_221 : aw_L aR_A 221 y_F_append := Or.inl wd_2_216
theorem lk_A_224 : aw_L aR_A 224 y_D_enter := Or.inl wd_2_40
theorem lk_A_228 : aw_L aR_A 228 y_F_recordCount := Or.inl wd_2_32
theorem lk_A_231 : aw_L aR_A 231 y_F_record := Or.inl wd_2_36
theorem lk_D_23 : aw_L aR_D 23 y_D_firstFrom := Or.inl wd_2_44
theorem lk_D_27 : aw_L aR_D 27 y_D_at := Or.inl wd_2_48
theorem lk_D_35 : aw_L aR_D 35 y_D_find := Or.inl wd_3_149
theorem lk_D_39 : aw_L aR_D 39 y_R_isTombstone := Or.inl wd_2_52
theorem lk_D_43 : aw_L aR_D 43 y_D_takeOut := Or.inl wd_2_56
theorem lk_D_47 : aw_L aR_D 47 y_D_insert := Or.inl wd_2_60
theorem lk_D_51 : aw_L aR_D 51 y_D_has := Or.inl wd_3_189
theorem lk_D_55 : aw_L aR_D 55 y_D_enter := Or.inl wd_3_190
theorem lk_K_7 : aw_L aR_K 7 y_K_missingBits := Or.inl wd_1_238
theorem lk_K_15 : aw_L aR_K 15 y_K_size := Or.inl wd_2_233
theorem lk_Y_9 : aw_L aR_Y 9 y_Y_valueBytes := Or.inl wd_2_8
theorem lk_G_17 : aw_L aR_G 17 y_F_init := Or.inl wd_1_137
theorem lk_G_31 : aw_L aR_G 31 y_G_cameToAll := Or.inl wd_3_138
theorem lk_G_35 : aw_L aR_G 35 y_S_at := Or.inl wd_3_142
theorem lk_G_41 : aw_L aR_G 41 y_F_record := Or.inl wd_3_144
theorem lk_G_45 : aw_L aR_G 45 y_D_has := Or.inl wd_3_145
theorem lk_G_51 : aw_L aR_G 51 y_R_size := Or.inl wd_3_150
theorem lk_G_57 : aw_L aR_G 57 y_G_outputFor := Or.inl wd_3_151
theorem lk_G_60 : aw_L aR_G 60 y_F_appendCopy := Or.inl wd_3_158
theorem lk_G_64 : aw_L aR_G 64 y_F_recordCount := Or.inl wd_3_143
theorem lk_G_67 : aw_L aR_G 67 y_F_number := Or.inl wd_3_175
theorem lk_G_70 : aw_L aR_G 70 y_F_publishAs := Or.inl wd_3_176
theorem lk_G_74 : aw_L aR_G 74 y_G_pointToCopies := Or.inl wd_3_182
theorem lk_G_78 : aw_L aR_G 78 y_S_exchange := Or.inl wd_3_191
theorem lk_G_82 : aw_L aR_G 82 y_S_takeOut := Or.inl wd_3_195
theorem lk_G_85 : aw_L aR_G 85 y_G_drop := Or.inl wd_3_199
theorem lk_G_92 : aw_L aR_G 92 y_D_replace := Or.inl wd_3_185
theorem lk_G_96 : aw_L aR_G 96 y_F_bytes := Or.inl wd_3_155
theorem lk_G_100 : aw_L aR_G 100 y_O_hasRoomFor := Or.inl wd_3_156
theorem lk_G_106 : aw_L aR_G 106 y_F_begin := Or.inl wd_3_157
theorem lk_O_17 : aw_L aR_O 17 y_O_has := Or.inl wd_3_3
theorem lk_O_21 : aw_L aR_O 21 y_O_addByte := Or.inl wd_2_225
theorem lk_O_25 : aw_L aR_O 25 y_O_at := Or.inl wd_1_218
theorem lk_O_31 : aw_L aR_O 31 y_O_set := Or.inl wd_2_239
theorem lk_R_19 : aw_L aR_R 19 y_K_size := Or.inl wd_3_55
theorem lk_R_25 : aw_L aR_R 25 y_R_keySize := Or.inl wd_3_51
theorem lk_R_29 : aw_L aR_R 29 y_Y_recordBytes := Or.inl wd_3_56
theorem lk_R_37 : aw_L aR_R 37 y_F_number := Or.inl wd_3_87
theorem lk_R_45 : aw_L aR_R 45 y_R_size := Or.inl wd_3_47
theorem lk_R_47 : aw_L aR_R 47 y_F_hasRightSum := Or.inl wd_3_57
theorem lk_R_51 : aw_L aR_R 51 y_F_bytes := Or.inl wd_3_63
theorem lk_R_55 : aw_L aR_R 55 y_Y_valueBytes := Or.inl wd_3_64
theorem lk_R_59 : aw_L aR_R 59 y_O_number := Or.inl wd_3_65
theorem lk_R_64 : aw_L aR_R 64 y_O_addFrom := Or.inl wd_3_166
theorem lk_S_17 : aw_L aR_S 17 y_F_init := Or.inl wd_1_35
theorem lk_S_29 : aw_L aR_S 29 y_F_bytes := Or.inl wd_2_187
theorem lk_S_33 : aw_L aR_S 33 y_O_hasRoomFor := Or.inl wd_2_191
theorem lk_S_39 : aw_L aR_S 39 y_S_sealActive := Or.inl wd_2_195
theorem lk_S_42 : aw_L aR_S 42 y_F_begin := Or.inl wd_2_196
theorem lk_S_46 : aw_L aR_S 46 y_F_syncAll := Or.inl wd_1_190
theorem lk_S_49 : aw_L aR_S 49 y_S_syncActive := Or.inl wd_1_186
theorem lk_S_52 : aw_L aR_S 52 y_F_losePower := Or.inl wd_3_110
theorem lk_F_11 : aw_L aR_F 11 y_O_init := Or.inl wd_1_41
theorem lk_F_29 : aw_L aR_F 29 y_R_init := Or.inr ⟨"AppendStore", wd_1_56⟩
theorem lk_F_30 : aw_L aR_F 30 y_O_cutTo := Or.inl wd_2_23
theorem lk_F_43 : aw_L aR_F 43 y_O_size := Or.inl wd_1_194
theorem lk_F_47 : aw_L aR_F 47 y_F_syncAll := Or.inl wd_2_27
theorem lk_F_50 : aw_L aR_F 50 y_D_has := Or.inl wd_3_219
theorem lk_F_56 : aw_L aR_F 56 y_R_size := Or.inl wd_3_220
theorem lk_F_57 : aw_L aR_F 57 y_K_size := Or.inl wd_2_220
theorem lk_F_62 : aw_L aR_F 62 y_O_addNumber := Or.inl wd_2_221
theorem lk_F_66 : aw_L aR_F 66 y_O_addByte := Or.inl wd_2_229
theorem lk_F_69 : aw_L aR_F 69 y_K_number := Or.inl wd_2_230
theorem lk_F_72 : aw_L aR_F 72 y_Y_valueBytes := Or.inl wd_2_234
theorem lk_F_76 : aw_L aR_F 76 y_O_sum := Or.inl wd_1_222
theorem lk_F_80 : aw_L aR_F 80 y_O_setSum := Or.inl wd_2_235
theorem lk_F_84 : aw_L aR_F 84 y_F_note := Or.inl wd_2_1
theorem lk_F_88 : aw_L aR_F 88 y_R_addBytesTo := Or.inl wd_3_162
theorem lk_F_99 : aw_L aR_F 99 y_O_number := Or.inl wd_1_214
theorem lk_F_104 : aw_L aR_F 104 y_O_addFrom := Or.inl wd_3_180
theorem lk_F_108 : aw_L aR_F 108 y_R_keySize := Or.inl wd_3_181
theorem lk_F_111 : aw_L aR_F 111 y_F_learnFromHint := Or.inl wd_1_210
theorem lk_F_115 : aw_L aR_F 115 y_F_learnFromBytes := Or.inl wd_2_11
theorem lk_F_118 : aw_L aR_F 118 y_O_at := Or.inl wd_1_228
theorem lk_F_121 : aw_L aR_F 121 y_Y_isKeySize := Or.inl wd_1_229
theorem lk_F_125 : aw_L aR_F 125 y_Y_isValueSize := Or.inl wd_1_232
theorem lk_F_128 : aw_L aR_F 128 y_K_rank := Or.inl wd_1_235
theorem lk_F_131 : aw_L aR_F 131 y_Y_recordBytes := Or.inl wd_2_5
theorem lk_F_135 : aw_L aR_F 135 y_F_soundSize := Or.inl wd_2_15
theorem lk_F_138 : aw_L aR_F 138 y_F_hasRightSum := Or.inl wd_2_19
theorem lk_L_60 : aw_L aR_L 60 y_A_init := Or.inl wd_1_20
theorem lk_L_63 : aw_L aR_L 63 y_M_init := Or.inl wd_4_9
theorem lk_M_73 : aw_L aR_M 73 y_M_summed := Or.inl wd_4_147
theorem lk_M_81 : aw_L aR_M 81 y_M_lengthOf := Or.inl wd_4_115
theorem lk_M_88 : aw_L aR_M 88 y_M_find := Or.inl wd_4_160
theorem lk_M_92 : aw_L aR_M 92 y_M_comesBefore := Or.inl wd_4_204
theorem lk_M_96 : aw_L aR_M 96 y_M_letter := Or.inl wd_4_208
theorem lk_M_106 : aw_L aR_M 106 y_M_putByte := Or.inl wd_4_139
theorem lk_M_110 : aw_L aR_M 110 y_M_clearRow := Or.inl wd_4_126
theorem lk_M_117 : aw_L aR_M 117 y_M_note := Or.inl wd_4_130
theorem lk_M_121 : aw_L aR_M 121 y_M_putNumber := Or.inl wd_4_134
theorem lk_M_128 : aw_L aR_M 128 y_M_sumOf := Or.inl wd_4_143
theorem lk_M_133 : aw_L aR_M 133 y_M_in := Or.inl wd_4_112
theorem lk_M_140 : aw_L aR_M 140 y_M_full := Or.inl wd_4_118
theorem lk_M_144 : aw_L aR_M 144 y_M_append := Or.inl wd_4_122
theorem lk_M_148 : aw_L aR_M 148 y_M_cut := Or.inl wd_4_153
theorem lk_M_151 : aw_L aR_M 151 y_M_set := Or.inl wd_4_156
theorem lk_M_155 : aw_L aR_M 155 y_M_unset := Or.inl wd_4_168
theorem lk_M_159 : aw_L aR_M 159 y_M_fail := Or.inl wd_4_176
theorem lk_M_163 : aw_L aR_M 163 y_M_rowOf := Or.inl wd_4_180
theorem lk_M_166 : aw_L aR_M 166 y_M_length := Or.inl wd_4_184
theorem lk_M_169 : aw_L aR_M 169 y_M_numberIn := Or.inl wd_4_188
theorem lk_M_172 : aw_L aR_M 172 y_M_ordered := Or.inl wd_4_200
theorem lk_M_178 : aw_L aR_M 178 y_M_isRecord := Or.inl wd_4_236
theorem lk_M_181 : aw_L aR_M 181 y_M_tells := Or.inl wd_4_224
theorem lk_M_184 : aw_L aR_M 184 y_M_openHint := Or.inl wd_4_228
theorem lk_M_187 : aw_L aR_M 187 y_M_openRecords := Or.inl wd_4_232
theorem lk_M_199 : aw_L aR_M 199 y_M_live := Or.inl wd_5_12
theorem lk_M_205 : aw_L aR_M 205 y_M_skip := Or.inl wd_5_4
theorem lk_M_209 : aw_L aR_M 209 y_M_makeHint := Or.inl wd_5_21
theorem lk_M_212 : aw_L aR_M 212 y_M_copyRow := Or.inl wd_5_25
theorem lk_M_215 : aw_L aR_M 215 y_M_comeToNext := Or.inl wd_5_8
theorem lk_M_218 : aw_L aR_M 218 y_M_publish := Or.inl wd_5_16
theorem lk_M_221 : aw_L aR_M 221 y_M_liveIn := Or.inl wd_5_37
theorem lk_M_224 : aw_L aR_M 224 y_M_isByte := Or.inl wd_5_45
theorem mw_A_append : aw_Mw m_A_append 3 := ⟨wd_2_177, wd_1_1, ⟨by decide, by decide⟩, by decide +kernel⟩
theorem mi_A_append : aw_Mi m_A_append := ⟨wd_2_176, aw_sel (q := (y_A_append, 5)) (by decide +kernel)⟩
theorem mw_A_checkOpen : aw_Mw m_A_checkOpen 0 := ⟨wd_2_156, wd_1_1, ⟨by decide, by decide⟩, by decide +kernel⟩
theorem mi_A_checkOpen : aw_Mi m_A_checkOpen := ⟨wd_2_155, aw_sel (q := (y_A_checkOpen, 5)) (by decide +kernel)⟩
theorem mw_A_checkRange : aw_Mw m_A_checkRange 3 := ⟨wd_2_84, wd_1_1, ⟨by decide, by decide⟩, by decide +kernel⟩
theorem ms_A_checkRange : Cond.static y_A_checkRange ∈ aw_ws := wd_2_83
theorem mw_A_enter : aw_Mw m_A_enter 1 := ⟨wd_2_31, wd_1_1, ⟨by decide, by decide⟩, by decide +kernel⟩
theorem mi_A_enter : aw_Mi m_A_enter := ⟨wd_2_30, aw_sel (q := (y_A_enter, 5)) (by decide +kernel)⟩
theorem mw_A_init : aw_Mw m_A_init 0 := ⟨wd_1_22, wd_1_1, ⟨by decide, by decide⟩, by decide +kernel⟩
theorem mn_A_init : Cond.instanceMethod y_A_init ∈ aw_ws := wd_1_21
theorem mw_A_rowWith : aw_Mw m_A_rowWith 3 := ⟨wd_3_235, wd_1_1, ⟨by decide, by decide⟩, by decide +kernel⟩
theorem mi_A_rowWith : aw_Mi m_A_rowWith := ⟨wd_3_234, aw_sel (q := (y_A_rowWith, 5)) (by decide +kernel)⟩
theorem mw_D_at : aw_Mw m_D_at 1 := ⟨wd_2_51, wd_1_6, ⟨by decide, by decide⟩, by decide +kernel⟩
theorem mi_D_at : aw_Mi m_D_at := ⟨wd_2_49, wd_2_50⟩
theorem mw_D_clear : aw_Mw m_D_clear 0 := ⟨wd_1_181, wd_1_6, ⟨by decide, by decide⟩, by decide +kernel⟩
theorem mi_D_clear : aw_Mi m_D_clear := ⟨wd_1_179, wd_1_180⟩
theorem mw_D_count : aw_Mw m_D_count 0 := ⟨wd_2_67, wd_1_6, ⟨by decide, by decide⟩, by decide +kernel⟩
theorem mi_D_count : aw_Mi m_D_count := ⟨wd_2_65, wd_2_66⟩
theorem mw_D_enter : aw_Mw m_D_enter 1 := ⟨wd_2_43, wd_1_6, ⟨by decide, by decide⟩, by decide +kernel⟩
theorem mi_D_enter : aw_Mi m_D_enter := ⟨wd_2_41, wd_2_42⟩
theorem mw_D_find : aw_Mw m_D_find 1 := ⟨wd_3_18, wd_1_6, ⟨by decide, by decide⟩, by decide +kernel⟩
theorem mi_D_find : aw_Mi m_D_find := ⟨wd_3_16, wd_3_17⟩
theorem mw_D_firstFrom : aw_Mw m_D_firstFrom 1 := ⟨wd_2_47, wd_1_6, ⟨by decide, by decide⟩, by decide +kernel⟩
theorem mi_D_firstFrom : aw_Mi m_D_firstFrom := ⟨wd_2_46, aw_sel (q := (y_D_firstFrom, 2)) (by decide +kernel)⟩
theorem mw_D_has : aw_Mw m_D_has 1 := ⟨wd_3_148, wd_1_6, ⟨by decide, by decide⟩, by decide +kernel⟩
theorem mi_D_has : aw_Mi m_D_has := ⟨wd_3_146, wd_3_147⟩
theorem mw_D_init : aw_Mw m_D_init 0 := ⟨wd_1_120, wd_1_6, ⟨by decide, by decide⟩, by decide +kernel⟩
theorem mn_D_init : Cond.instanceMethod y_D_init ∈ aw_ws := wd_1_119
theorem mw_D_insert : aw_Mw m_D_insert 2 := ⟨wd_2_63, wd_1_6, ⟨by decide, by decide⟩, by decide +kernel⟩
theorem mi_D_insert : aw_Mi m_D_insert := ⟨wd_2_62, aw_sel (q := (y_D_insert, 2)) (by decide +kernel)⟩
theorem mw_D_replace : aw_Mw m_D_replace 2 := ⟨wd_3_188, wd_1_6, ⟨by decide, by decide⟩, by decide +kernel⟩
theorem mi_D_replace : aw_Mi m_D_replace := ⟨wd_3_186, wd_3_187⟩
theorem mw_D_takeOut : aw_Mw m_D_takeOut 1 := ⟨wd_2_59, wd_1_6, ⟨by decide, by decide⟩, by decide +kernel⟩
theorem mi_D_takeOut : aw_Mi m_D_takeOut := ⟨wd_2_58, aw_sel (q := (y_D_takeOut, 2)) (by decide +kernel)⟩
theorem mw_F_append : aw_Mw m_F_append 4 := ⟨wd_2_219, wd_1_3, ⟨by decide, by decide⟩, by decide +kernel⟩
theorem mi_F_append : aw_Mi m_F_append := ⟨wd_2_217, wd_2_218⟩
theorem mw_F_appendCopy : aw_Mw m_F_appendCopy 1 := ⟨wd_3_161, wd_1_3, ⟨by decide, by decide⟩, by decide +kernel⟩
theorem mi_F_appendCopy : aw_Mi m_F_appendCopy := ⟨wd_3_159, wd_3_160⟩
theorem mw_F_begin : aw_Mw m_F_begin 1 := ⟨wd_2_199, wd_1_3, ⟨by decide, by decide⟩, by decide +kernel⟩
theorem mi_F_begin : aw_Mi m_F_begin := ⟨wd_2_197, wd_2_198⟩
theorem mw_F_bytes : aw_Mw m_F_bytes 0 := ⟨wd_2_190, wd_1_3, ⟨by decide, by decide⟩, by decide +kernel⟩
theorem mi_F_bytes : aw_Mi m_F_bytes := ⟨wd_2_188, wd_2_189⟩
theorem mw_F_hasRightSum : aw_Mw m_F_hasRightSum 2 := ⟨wd_2_22, wd_1_3, ⟨by decide, by decide⟩, by decide +kernel⟩
theorem mi_F_hasRightSum : aw_Mi m_F_hasRightSum := ⟨wd_2_20, wd_2_21⟩
theorem mw_F_hint : aw_Mw m_F_hint 0 := ⟨wd_3_224, wd_1_3, ⟨by decide, by decide⟩, by decide +kernel⟩
theorem mi_F_hint : aw_Mi m_F_hint := ⟨wd_3_222, wd_3_223⟩
theorem mw_F_init : aw_Mw m_F_init 0 := ⟨wd_1_37, wd_1_3, ⟨by decide, by decide⟩, by decide +kernel⟩
theorem mn_F_init : Cond.instanceMethod y_F_init ∈ aw_ws := wd_1_36
theorem mw_F_learn : aw_Mw m_F_learn 1 := ⟨wd_1_209, wd_1_3, ⟨by decide, by decide⟩, by decide +kernel⟩
theorem mi_F_learn : aw_Mi m_F_learn := ⟨wd_1_207, wd_1_208⟩
theorem mw_F_learnFromBytes : aw_Mw m_F_learnFromBytes 0 := ⟨wd_2_14, wd_1_3, ⟨by decide, by decide⟩, by decide +kernel⟩
theorem mi_F_learnFromBytes : aw_Mi m_F_learnFromBytes := ⟨wd_2_13, aw_sel (q := (y_F_learnFromBytes, 6)) (by decide +kernel)⟩
theorem mw_F_learnFromHint : aw_Mw m_F_learnFromHint 0 := ⟨wd_1_213, wd_1_3, ⟨by decide, by decide⟩, by decide +kernel⟩
theorem mi_F_learnFromHint : aw_Mi m_F_learnFromHint := ⟨wd_1_212, aw_sel (q := (y_F_learnFromHint, 6)) (by decide +kernel)⟩
theorem mw_F_liveBytes : aw_Mw m_F_liveBytes 1 := ⟨wd_3_218, wd_1_3, ⟨by decide, by decide⟩, by decide +kernel⟩
theorem mi_F_liveBytes : aw_Mi m_F_liveBytes := ⟨wd_3_216, wd_3_217⟩
theorem mw_F_losePower : aw_Mw m_F_losePower 1 := ⟨wd_3_113, wd_1_3, ⟨by decide, by decide⟩, by decide +kernel⟩
theorem mi_F_losePower : aw_Mi m_F_losePower := ⟨wd_3_111, wd_3_112⟩
theorem mw_F_note : aw_Mw m_F_note 4 := ⟨wd_2_4, wd_1_3, ⟨by decide, by decide⟩, by decide +kernel⟩
theorem mi_F_note : aw_Mi m_F_note := ⟨wd_2_3, aw_sel (q := (y_F_note, 6)) (by decide +kernel)⟩
theorem mw_F_number : aw_Mw m_F_number 0 := ⟨wd_3_90, wd_1_3, ⟨by decide, by decide⟩, by decide +kernel⟩
theorem mi_F_number : aw_Mi m_F_number := ⟨wd_3_88, wd_3_89⟩
theorem mw_F_publishAs : aw_Mw m_F_publishAs 1 := ⟨wd_3_179, wd_1_3, ⟨by decide, by decide⟩, by decide +kernel⟩
theorem mi_F_publishAs : aw_Mi m_F_publishAs := ⟨wd_3_177, wd_3_178⟩
theorem mw_F_record : aw_Mw m_F_record 1 := ⟨wd_2_39, wd_1_3, ⟨by decide, by decide⟩, by decide +kernel⟩
theorem mi_F_record : aw_Mi m_F_record := ⟨wd_2_37, wd_2_38⟩
theorem mw_F_recordCount : aw_Mw m_F_recordCount 0 := ⟨wd_2_35, wd_1_3, ⟨by decide, by decide⟩, by decide +kernel⟩
theorem mi_F_recordCount : aw_Mi m_F_recordCount := ⟨wd_2_33, wd_2_34⟩
theorem mw_F_soundSize : aw_Mw m_F_soundSize 1 := ⟨wd_2_18, wd_1_3, ⟨by decide, by decide⟩, by decide +kernel⟩
theorem mi_F_soundSize : aw_Mi m_F_soundSize := ⟨wd_2_17, aw_sel (q := (y_F_soundSize, 6)) (by decide +kernel)⟩
theorem mw_F_syncAll : aw_Mw m_F_syncAll 0 := ⟨wd_1_193, wd_1_3, ⟨by decide, by decide⟩, by decide +kernel⟩
theorem mi_F_syncAll : aw_Mi m_F_syncAll := ⟨wd_1_191, wd_1_192⟩
theorem mw_F_synced : aw_Mw m_F_synced 0 := ⟨wd_3_214, wd_1_3, ⟨by decide, by decide⟩, by decide +kernel⟩
theorem mi_F_synced : aw_Mi m_F_synced := ⟨wd_3_212, wd_3_213⟩
theorem mw_G_advance : aw_Mw m_G_advance 3 := ⟨wd_3_137, wd_1_7, ⟨by decide, by decide⟩, by decide +kernel⟩
theorem mi_G_advance : aw_Mi m_G_advance := ⟨wd_3_135, wd_3_136⟩
theorem mw_G_begin : aw_Mw m_G_begin 1 := ⟨wd_3_133, wd_1_7, ⟨by decide, by decide⟩, by decide +kernel⟩
theorem mi_G_begin : aw_Mi m_G_begin := ⟨wd_3_131, wd_3_132⟩
theorem mw_G_cameToAll : aw_Mw m_G_cameToAll 1 := ⟨wd_3_141, wd_1_7, ⟨by decide, by decide⟩, by decide +kernel⟩
theorem mi_G_cameToAll : aw_Mi m_G_cameToAll := ⟨wd_3_139, wd_3_140⟩
theorem mw_G_drop : aw_Mw m_G_drop 0 := ⟨wd_1_177, wd_1_7, ⟨by decide, by decide⟩, by decide +kernel⟩
theorem mi_G_drop : aw_Mi m_G_drop := ⟨wd_1_175, wd_1_176⟩
theorem mw_G_goesOn : aw_Mw m_G_goesOn 0 := ⟨wd_3_124, wd_1_7, ⟨by decide, by decide⟩, by decide +kernel⟩
theorem mi_G_goesOn : aw_Mi m_G_goesOn := ⟨wd_3_122, wd_3_123⟩
theorem mw_G_init : aw_Mw m_G_init 0 := ⟨wd_1_134, wd_1_7, ⟨by decide, by decide⟩, by decide +kernel⟩
theorem mn_G_init : Cond.instanceMethod y_G_init ∈ aw_ws := wd_1_133
theorem mw_G_outputFor : aw_Mw m_G_outputFor 1 := ⟨wd_3_154, wd_1_7, ⟨by decide, by decide⟩, by decide +kernel⟩
theorem mi_G_outputFor : aw_Mi m_G_outputFor := ⟨wd_3_153, aw_sel (q := (y_G_outputFor, 5)) (by decide +kernel)⟩
theorem mw_G_pointToCopies : aw_Mw m_G_pointToCopies 2 := ⟨wd_3_184, wd_1_7, ⟨by decide, by decide⟩, by decide +kernel⟩
theorem ms_G_pointToCopies : Cond.static y_G_pointToCopies ∈ aw_ws := wd_3_183
theorem mw_G_publish : aw_Mw m_G_publish 2 := ⟨wd_3_174, wd_1_7, ⟨by decide, by decide⟩, by decide +kernel⟩
theorem mi_G_publish : aw_Mi m_G_publish := ⟨wd_3_172, wd_3_173⟩
theorem mw_K_missingBits : aw_Mw m_K_missingBits 1 := ⟨wd_2_0, wd_1_14, ⟨by decide, by decide⟩, by decide +kernel⟩
theorem ms_K_missingBits : Cond.static y_K_missingBits ∈ aw_ws := wd_1_239
theorem mw_K_number : aw_Mw m_K_number 1 := ⟨wd_2_232, wd_1_14, ⟨by decide, by decide⟩, by decide +kernel⟩
theorem ms_K_number : Cond.static y_K_number ∈ aw_ws := wd_2_231
theorem mw_K_rank : aw_Mw m_K_rank 2 := ⟨wd_1_237, wd_1_14, ⟨by decide, by decide⟩, by decide +kernel⟩
theorem ms_K_rank : Cond.static y_K_rank ∈ aw_ws := wd_1_236
theorem mw_K_size : aw_Mw m_K_size 1 := ⟨wd_2_180, wd_1_14, ⟨by decide, by decide⟩, by decide +kernel⟩
theorem ms_K_size : Cond.static y_K_size ∈ aw_ws := wd_2_179
theorem mw_M_append : aw_Mw m_M_append 4 := ⟨wd_4_125, wd_1_8, ⟨by decide, by decide⟩, by decide +kernel⟩
theorem mi_M_append : aw_Mi m_M_append := ⟨wd_4_124, aw_sel (q := (y_M_append, 29)) (by decide +kernel)⟩
theorem mw_M_clearRow : aw_Mw m_M_clearRow 1 := ⟨wd_4_129, wd_1_8, ⟨by decide, by decide⟩, by decide +kernel⟩
theorem mi_M_clearRow : aw_Mi m_M_clearRow := ⟨wd_4_128, aw_sel (q := (y_M_clearRow, 29)) (by decide +kernel)⟩
theorem mw_M_comeToNext : aw_Mw m_M_comeToNext 0 := ⟨wd_5_11, wd_1_8, ⟨by decide, by decide⟩, by decide +kernel⟩
theorem mi_M_comeToNext : aw_Mi m_M_comeToNext := ⟨wd_5_10, aw_sel (q := (y_M_comeToNext, 29)) (by decide +kernel)⟩
theorem mw_M_comesBefore : aw_Mw m_M_comesBefore 2 := ⟨wd_4_207, wd_1_8, ⟨by decide, by decide⟩, by decide +kernel⟩
theorem mi_M_comesBefore : aw_Mi m_M_comesBefore := ⟨wd_4_206, aw_sel (q := (y_M_comesBefore, 29)) (by decide +kernel)⟩
theorem mw_M_copyRow : aw_Mw m_M_copyRow 2 := ⟨wd_5_28, wd_1_8, ⟨by decide, by decide⟩, by decide +kernel⟩
theorem mi_M_copyRow : aw_Mi m_M_copyRow := ⟨wd_5_27, aw_sel (q := (y_M_copyRow, 29)) (by decide +kernel)⟩
theorem mw_M_cut : aw_Mw m_M_cut 2 := ⟨wd_4_155, wd_1_8, ⟨by decide, by decide⟩, by decide +kernel⟩
theorem ms_M_cut : Cond.static y_M_cut ∈ aw_ws := wd_4_154
theorem mw_M_fail : aw_Mw m_M_fail 1 := ⟨wd_4_179, wd_1_8, ⟨by decide, by decide⟩, by decide +kernel⟩
theorem mi_M_fail : aw_Mi m_M_fail := ⟨wd_4_178, aw_sel (q := (y_M_fail, 29)) (by decide +kernel)⟩
theorem mw_M_find : aw_Mw m_M_find 2 := ⟨wd_4_163, wd_1_8, ⟨by decide, by decide⟩, by decide +kernel⟩
theorem mi_M_find : aw_Mi m_M_find := ⟨wd_4_162, aw_sel (q := (y_M_find, 29)) (by decide +kernel)⟩
theorem mw_M_full : aw_Mw m_M_full 1 := ⟨wd_4_121, wd_1_8, ⟨by decide, by decide⟩, by decide +kernel⟩
theorem mi_M_full : aw_Mi m_M_full := ⟨wd_4_120, aw_sel (q := (y_M_full, 29)) (by decide +kernel)⟩
theorem mw_M_in : aw_Mw m_M_in 3 := ⟨wd_4_114, wd_1_8, ⟨by decide, by decide⟩, by decide +kernel⟩
theorem ms_M_in : Cond.static y_M_in ∈ aw_ws := wd_4_113
theorem mw_M_init : aw_Mw m_M_init 0 := ⟨wd_4_11, wd_1_8, ⟨by decide, by decide⟩, by decide +kernel⟩
theorem mn_M_init : Cond.instanceMethod y_M_init ∈ aw_ws := wd_4_10
theorem mw_M_isByte : aw_Mw m_M_isByte 3 := ⟨wd_5_48, wd_1_8, ⟨by decide, by decide⟩, by decide +kernel⟩
theorem mi_M_isByte : aw_Mi m_M_isByte := ⟨wd_5_47, aw_sel (q := (y_M_isByte, 29)) (by decide +kernel)⟩
theorem mw_M_isRecord : aw_Mw m_M_isRecord 2 := ⟨wd_4_239, wd_1_8, ⟨by decide, by decide⟩, by decide +kernel⟩
theorem mi_M_isRecord : aw_Mi m_M_isRecord := ⟨wd_4_238, aw_sel (q := (y_M_isRecord, 29)) (by decide +kernel)⟩
theorem mw_M_length : aw_Mw m_M_length 2 := ⟨wd_4_187, wd_1_8, ⟨by decide, by decide⟩, by decide +kernel⟩
theorem mi_M_length : aw_Mi m_M_length := ⟨wd_4_186, aw_sel (q := (y_M_length, 29)) (by decide +kernel)⟩
theorem mw_M_lengthOf : aw_Mw m_M_lengthOf 2 := ⟨wd_4_117, wd_1_8, ⟨by decide, by decide⟩, by decide +kernel⟩
theorem ms_M_lengthOf : Cond.static y_M_lengthOf ∈ aw_ws := wd_4_116
theorem mw_M_letter : aw_Mw m_M_letter 2 := ⟨wd_4_211, wd_1_8, ⟨by decide, by decide⟩, by decide +kernel⟩
theorem mi_M_letter : aw_Mi m_M_letter := ⟨wd_4_210, aw_sel (q := (y_M_letter, 29)) (by decide +kernel)⟩
theorem mw_M_live : aw_Mw m_M_live 2 := ⟨wd_5_15, wd_1_8, ⟨by decide, by decide⟩, by decide +kernel⟩
theorem mi_M_live : aw_Mi m_M_live := ⟨wd_5_14, aw_sel (q := (y_M_live, 29)) (by decide +kernel)⟩
theorem mw_M_liveIn : aw_Mw m_M_liveIn 1 := ⟨wd_5_40, wd_1_8, ⟨by decide, by decide⟩, by decide +kernel⟩
theorem mi_M_liveIn : aw_Mi m_M_liveIn := ⟨wd_5_39, aw_sel (q := (y_M_liveIn, 29)) (by decide +kernel)⟩
theorem mw_M_makeHint : aw_Mw m_M_makeHint 1 := ⟨wd_5_24, wd_1_8, ⟨by decide, by decide⟩, by decide +kernel⟩
theorem mi_M_makeHint : aw_Mi m_M_makeHint := ⟨wd_5_23, aw_sel (q := (y_M_makeHint, 29)) (by decide +kernel)⟩
theorem mw_M_note : aw_Mw m_M_note 4 := ⟨wd_4_133, wd_1_8, ⟨by decide, by decide⟩, by decide +kernel⟩
theorem mi_M_note : aw_Mi m_M_note := ⟨wd_4_132, aw_sel (q := (y_M_note, 29)) (by decide +kernel)⟩
theorem mw_M_numberIn : aw_Mw m_M_numberIn 3 := ⟨wd_4_190, wd_1_8, ⟨by decide, by decide⟩, by decide +kernel⟩
theorem ms_M_numberIn : Cond.static y_M_numberIn ∈ aw_ws := wd_4_189
theorem mw_M_openHint : aw_Mw m_M_openHint 1 := ⟨wd_4_231, wd_1_8, ⟨by decide, by decide⟩, by decide +kernel⟩
theorem mi_M_openHint : aw_Mi m_M_openHint := ⟨wd_4_230, aw_sel (q := (y_M_openHint, 29)) (by decide +kernel)⟩
theorem mw_M_openRecords : aw_Mw m_M_openRecords 1 := ⟨wd_4_235, wd_1_8, ⟨by decide, by decide⟩, by decide +kernel⟩
theorem mi_M_openRecords : aw_Mi m_M_openRecords := ⟨wd_4_234, aw_sel (q := (y_M_openRecords, 29)) (by decide +kernel)⟩
theorem mw_M_ordered : aw_Mw m_M_ordered 1 := ⟨wd_4_203, wd_1_8, ⟨by decide, by decide⟩, by decide +kernel⟩
theorem mi_M_ordered : aw_Mi m_M_ordered := ⟨wd_4_202, aw_sel (q := (y_M_ordered, 29)) (by decide +kernel)⟩
theorem mw_M_publish : aw_Mw m_M_publish 0 := ⟨wd_5_19, wd_1_8, ⟨by decide, by decide⟩, by decide +kernel⟩
theorem mi_M_publish : aw_Mi m_M_publish := ⟨wd_5_18, aw_sel (q := (y_M_publish, 29)) (by decide +kernel)⟩
theorem mw_M_putByte : aw_Mw m_M_putByte 2 := ⟨wd_4_142, wd_1_8, ⟨by decide, by decide⟩, by decide +kernel⟩
theorem mi_M_putByte : aw_Mi m_M_putByte := ⟨wd_4_141, aw_sel (q := (y_M_putByte, 29)) (by decide +kernel)⟩
theorem mw_M_putNumber : aw_Mw m_M_putNumber 3 := ⟨wd_4_137, wd_1_8, ⟨by decide, by decide⟩, by decide +kernel⟩
theorem mi_M_putNumber : aw_Mi m_M_putNumber := ⟨wd_4_136, aw_sel (q := (y_M_putNumber, 29)) (by decide +kernel)⟩
theorem mw_M_rowOf : aw_Mw m_M_rowOf 1 := ⟨wd_4_183, wd_1_8, ⟨by decide, by decide⟩, by decide +kernel⟩
theorem mi_M_rowOf : aw_Mi m_M_rowOf := ⟨wd_4_182, aw_sel (q := (y_M_rowOf, 29)) (by decide +kernel)⟩
theorem mw_M_set : aw_Mw m_M_set 4 := ⟨wd_4_159, wd_1_8, ⟨by decide, by decide⟩, by decide +kernel⟩
theorem mi_M_set : aw_Mi m_M_set := ⟨wd_4_158, aw_sel (q := (y_M_set, 29)) (by decide +kernel)⟩
theorem mw_M_skip : aw_Mw m_M_skip 0 := ⟨wd_5_7, wd_1_8, ⟨by decide, by decide⟩, by decide +kernel⟩
theorem mi_M_skip : aw_Mi m_M_skip := ⟨wd_5_6, aw_sel (q := (y_M_skip, 29)) (by decide +kernel)⟩
theorem mw_M_sumOf : aw_Mw m_M_sumOf 3 := ⟨wd_4_145, wd_1_8, ⟨by decide, by decide⟩, by decide +kernel⟩
theorem ms_M_sumOf : Cond.static y_M_sumOf ∈ aw_ws := wd_4_144
theorem mw_M_summed : aw_Mw m_M_summed 2 := ⟨wd_4_149, wd_1_8, ⟨by decide, by decide⟩, by decide +kernel⟩
theorem ms_M_summed : Cond.static y_M_summed ∈ aw_ws := wd_4_148
theorem mw_M_tells : aw_Mw m_M_tells 1 := ⟨wd_4_227, wd_1_8, ⟨by decide, by decide⟩, by decide +kernel⟩
theorem mi_M_tells : aw_Mi m_M_tells := ⟨wd_4_226, aw_sel (q := (y_M_tells, 29)) (by decide +kernel)⟩
theorem mw_M_unset : aw_Mw m_M_unset 2 := ⟨wd_4_171, wd_1_8, ⟨by decide, by decide⟩, by decide +kernel⟩
theorem mi_M_unset : aw_Mi m_M_unset := ⟨wd_4_170, aw_sel (q := (y_M_unset, 29)) (by decide +kernel)⟩
theorem mw_O_addByte : aw_Mw m_O_addByte 1 := ⟨wd_2_228, wd_1_4, ⟨by decide, by decide⟩, by decide +kernel⟩
theorem mi_O_addByte : aw_Mi m_O_addByte := ⟨wd_2_226, wd_2_227⟩
theorem mw_O_addFrom : aw_Mw m_O_addFrom 3 := ⟨wd_3_169, wd_1_4, ⟨by decide, by decide⟩, by decide +kernel⟩
theorem mi_O_addFrom : aw_Mi m_O_addFrom := ⟨wd_3_167, wd_3_168⟩
theorem mw_O_addNumber : aw_Mw m_O_addNumber 2 := ⟨wd_2_224, wd_1_4, ⟨by decide, by decide⟩, by decide +kernel⟩
theorem mi_O_addNumber : aw_Mi m_O_addNumber := ⟨wd_2_222, wd_2_223⟩
theorem mw_O_at : aw_Mw m_O_at 1 := ⟨wd_1_221, wd_1_4, ⟨by decide, by decide⟩, by decide +kernel⟩
theorem mi_O_at : aw_Mi m_O_at := ⟨wd_1_219, wd_1_220⟩
theorem mw_O_cutTo : aw_Mw m_O_cutTo 1 := ⟨wd_2_26, wd_1_4, ⟨by decide, by decide⟩, by decide +kernel⟩
theorem mi_O_cutTo : aw_Mi m_O_cutTo := ⟨wd_2_24, wd_2_25⟩
theorem mw_O_has : aw_Mw m_O_has 1 := ⟨wd_3_6, wd_1_4, ⟨by decide, by decide⟩, by decide +kernel⟩
theorem mi_O_has : aw_Mi m_O_has := ⟨wd_3_4, wd_3_5⟩
theorem mw_O_hasRoomFor : aw_Mw m_O_hasRoomFor 1 := ⟨wd_2_194, wd_1_4, ⟨by decide, by decide⟩, by decide +kernel⟩
theorem mi_O_hasRoomFor : aw_Mi m_O_hasRoomFor := ⟨wd_2_192, wd_2_193⟩
theorem mw_O_init : aw_Mw m_O_init 1 := ⟨wd_1_43, wd_1_4, ⟨by decide, by decide⟩, by decide +kernel⟩
theorem mn_O_init : Cond.instanceMethod y_O_init ∈ aw_ws := wd_1_42
theorem mw_O_number : aw_Mw m_O_number 2 := ⟨wd_1_217, wd_1_4, ⟨by decide, by decide⟩, by decide +kernel⟩
theorem mi_O_number : aw_Mi m_O_number := ⟨wd_1_215, wd_1_216⟩
theorem mw_O_set : aw_Mw m_O_set 2 := ⟨wd_3_2, wd_1_4, ⟨by decide, by decide⟩, by decide +kernel⟩
theorem mi_O_set : aw_Mi m_O_set := ⟨wd_3_0, wd_3_1⟩
theorem mw_O_setSum : aw_Mw m_O_setSum 2 := ⟨wd_2_238, wd_1_4, ⟨by decide, by decide⟩, by decide +kernel⟩
theorem mi_O_setSum : aw_Mi m_O_setSum := ⟨wd_2_236, wd_2_237⟩
theorem mw_O_size : aw_Mw m_O_size 0 := ⟨wd_1_197, wd_1_4, ⟨by decide, by decide⟩, by decide +kernel⟩
theorem mi_O_size : aw_Mi m_O_size := ⟨wd_1_195, wd_1_196⟩
theorem mw_O_sum : aw_Mw m_O_sum 2 := ⟨wd_1_225, wd_1_4, ⟨by decide, by decide⟩, by decide +kernel⟩
theorem mi_O_sum : aw_Mi m_O_sum := ⟨wd_1_223, wd_1_224⟩
theorem mw_R_addBytesTo : aw_Mw m_R_addBytesTo 1 := ⟨wd_3_165, wd_1_5, ⟨by decide, by decide⟩, by decide +kernel⟩
theorem mi_R_addBytesTo : aw_Mi m_R_addBytesTo := ⟨wd_3_163, wd_3_164⟩
theorem mw_R_fileNumber : aw_Mw m_R_fileNumber 0 := ⟨wd_3_86, wd_1_5, ⟨by decide, by decide⟩, by decide +kernel⟩
theorem mi_R_fileNumber : aw_Mi m_R_fileNumber := ⟨wd_3_84, wd_3_85⟩
theorem mw_R_init : aw_Mw m_R_init 0 := ⟨wd_1_58, wd_1_5, ⟨by decide, by decide⟩, by decide +kernel⟩
theorem mn_R_init : Cond.instanceMethod y_R_init ∈ aw_ws := wd_1_57
theorem mw_R_isBroken : aw_Mw m_R_isBroken 0 := ⟨wd_3_46, wd_1_5, ⟨by decide, by decide⟩, by decide +kernel⟩
theorem mi_R_isBroken : aw_Mi m_R_isBroken := ⟨wd_3_44, wd_3_45⟩
theorem mw_R_isTombstone : aw_Mw m_R_isTombstone 0 := ⟨wd_2_55, wd_1_5, ⟨by decide, by decide⟩, by decide +kernel⟩
theorem mi_R_isTombstone : aw_Mi m_R_isTombstone := ⟨wd_2_53, wd_2_54⟩
theorem mw_R_keySize : aw_Mw m_R_keySize 0 := ⟨wd_3_54, wd_1_5, ⟨by decide, by decide⟩, by decide +kernel⟩
theorem mi_R_keySize : aw_Mi m_R_keySize := ⟨wd_3_52, wd_3_53⟩
theorem mw_R_size : aw_Mw m_R_size 0 := ⟨wd_3_50, wd_1_5, ⟨by decide, by decide⟩, by decide +kernel⟩
theorem mi_R_size : aw_Mi m_R_size := ⟨wd_3_48, wd_3_49⟩
theorem mw_R_value : aw_Mw m_R_value 0 := ⟨wd_3_62, wd_1_5, ⟨by decide, by decide⟩, by decide +kernel⟩
theorem mi_R_value : aw_Mi m_R_value := ⟨wd_3_60, wd_3_61⟩
theorem mw_S_at : aw_Mw m_S_at 1 := ⟨wd_1_205, wd_1_2, ⟨by decide, by decide⟩, by decide +kernel⟩
theorem mi_S_at : aw_Mi m_S_at := ⟨wd_1_203, wd_1_204⟩
theorem mw_S_count : aw_Mw m_S_count 0 := ⟨wd_1_201, wd_1_2, ⟨by decide, by decide⟩, by decide +kernel⟩
theorem mi_S_count : aw_Mi m_S_count := ⟨wd_1_199, wd_1_200⟩
theorem mw_S_exchange : aw_Mw m_S_exchange 2 := ⟨wd_3_194, wd_1_2, ⟨by decide, by decide⟩, by decide +kernel⟩
theorem mi_S_exchange : aw_Mi m_S_exchange := ⟨wd_3_192, wd_3_193⟩
theorem mw_S_init : aw_Mw m_S_init 0 := ⟨wd_1_30, wd_1_2, ⟨by decide, by decide⟩, by decide +kernel⟩
theorem mn_S_init : Cond.instanceMethod y_S_init ∈ aw_ws := wd_1_29
theorem mw_S_losePower : aw_Mw m_S_losePower 1 := ⟨wd_3_109, wd_1_2, ⟨by decide, by decide⟩, by decide +kernel⟩
theorem mi_S_losePower : aw_Mi m_S_losePower := ⟨wd_3_107, wd_3_108⟩
theorem mw_S_sealActive : aw_Mw m_S_sealActive 0 := ⟨wd_1_185, wd_1_2, ⟨by decide, by decide⟩, by decide +kernel⟩
theorem mi_S_sealActive : aw_Mi m_S_sealActive := ⟨wd_1_183, wd_1_184⟩
theorem mw_S_sealedCount : aw_Mw m_S_sealedCount 0 := ⟨wd_3_128, wd_1_2, ⟨by decide, by decide⟩, by decide +kernel⟩
theorem mi_S_sealedCount : aw_Mi m_S_sealedCount := ⟨wd_3_126, wd_3_127⟩
theorem mw_S_syncActive : aw_Mw m_S_syncActive 0 := ⟨wd_1_189, wd_1_2, ⟨by decide, by decide⟩, by decide +kernel⟩
theorem mi_S_syncActive : aw_Mi m_S_syncActive := ⟨wd_1_187, wd_1_188⟩
theorem mw_S_takeOut : aw_Mw m_S_takeOut 1 := ⟨wd_3_198, wd_1_2, ⟨by decide, by decide⟩, by decide +kernel⟩
theorem mi_S_takeOut : aw_Mi m_S_takeOut := ⟨wd_3_196, wd_3_197⟩
theorem mw_S_withRoomFor : aw_Mw m_S_withRoomFor 1 := ⟨wd_2_186, wd_1_2, ⟨by decide, by decide⟩, by decide +kernel⟩
theorem mi_S_withRoomFor : aw_Mi m_S_withRoomFor := ⟨wd_2_184, wd_2_185⟩
theorem mw_Y_isKeySize : aw_Mw m_Y_isKeySize 1 := ⟨wd_1_231, wd_1_15, ⟨by decide, by decide⟩, by decide +kernel⟩
theorem ms_Y_isKeySize : Cond.static y_Y_isKeySize ∈ aw_ws := wd_1_230
theorem mw_Y_isValueSize : aw_Mw m_Y_isValueSize 1 := ⟨wd_1_234, wd_1_15, ⟨by decide, by decide⟩, by decide +kernel⟩
theorem ms_Y_isValueSize : Cond.static y_Y_isValueSize ∈ aw_ws := wd_1_233
theorem mw_Y_recordBytes : aw_Mw m_Y_recordBytes 2 := ⟨wd_2_7, wd_1_15, ⟨by decide, by decide⟩, by decide +kernel⟩
theorem ms_Y_recordBytes : Cond.static y_Y_recordBytes ∈ aw_ws := wd_2_6
theorem mw_Y_valueBytes : aw_Mw m_Y_valueBytes 1 := ⟨wd_2_10, wd_1_15, ⟨by decide, by decide⟩, by decide +kernel⟩
theorem ms_Y_valueBytes : Cond.static y_Y_valueBytes ∈ aw_ws := wd_2_9
