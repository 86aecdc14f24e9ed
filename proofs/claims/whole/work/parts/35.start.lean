theorem lw_t1 {w : Cond} (h : w ∈ tables_1_1) : w ∈ lw_tbl := List.mem_append_right _ (List.mem_append_left _ h)
theorem lw_t2 {w : Cond} (h : w ∈ tables_1_2) : w ∈ lw_tbl := List.mem_append_right _ (List.mem_append_right _ (List.mem_append_left _ h))
theorem lw_t3 {w : Cond} (h : w ∈ tables_1_3) : w ∈ lw_tbl := List.mem_append_right _ (List.mem_append_right _ (List.mem_append_right _ (List.mem_append_left _ h)))
theorem lw_t4 {w : Cond} (h : w ∈ tables_1_4) : w ∈ lw_tbl := List.mem_append_right _ (List.mem_append_right _ (List.mem_append_right _ (List.mem_append_right _ (List.mem_append_left _ h))))
theorem lw_t5 {w : Cond} (h : w ∈ tables_1_5) : w ∈ lw_tbl := List.mem_append_right _ (List.mem_append_right _ (List.mem_append_right _ (List.mem_append_right _ (List.mem_append_right _ (h)))))
theorem sw_1_19 : (Jvm.Cond.instantiable "AppendStore" (5 : Nat)) ∈ lw_tbl := lw_t1 (List.mem_of_getElem? (i := 19) (by decide +kernel))
theorem sw_1_117 : (Jvm.Cond.instantiable "AppendStore$Directory" (2 : Nat)) ∈ lw_tbl := lw_t1 (List.mem_of_getElem? (i := 117) (by decide +kernel))
theorem sw_1_131 : (Jvm.Cond.instantiable "AppendStore$Merger" (5 : Nat)) ∈ lw_tbl := lw_t1 (List.mem_of_getElem? (i := 131) (by decide +kernel))
theorem sw_1_40 : (Jvm.Cond.instantiable "AppendStore$Octets" (2 : Nat)) ∈ lw_tbl := lw_t1 (List.mem_of_getElem? (i := 40) (by decide +kernel))
theorem sw_1_55 : (Jvm.Cond.instantiable "AppendStore$Rec" (5 : Nat)) ∈ lw_tbl := lw_t1 (List.mem_of_getElem? (i := 55) (by decide +kernel))
theorem sw_1_27 : (Jvm.Cond.instantiable "AppendStore$Shelf" (4 : Nat)) ∈ lw_tbl := lw_t1 (List.mem_of_getElem? (i := 27) (by decide +kernel))
theorem sw_1_34 : (Jvm.Cond.instantiable "AppendStore$StoreFile" (6 : Nat)) ∈ lw_tbl := lw_t1 (List.mem_of_getElem? (i := 34) (by decide +kernel))
theorem sw_4_8 : (Jvm.Cond.instantiable "AppendStoreModel" (29 : Nat)) ∈ lw_tbl := lw_t4 (List.mem_of_getElem? (i := 8) (by decide +kernel))
theorem sw_1_52 : (Jvm.Cond.arrayClass Jvm.ClassFile.FieldType.byte) ∈ lw_tbl := lw_t1 (List.mem_of_getElem? (i := 52) (by decide +kernel))
theorem sw_4_101 : (Jvm.Cond.arrayClass Jvm.ClassFile.FieldType.int) ∈ lw_tbl := lw_t4 (List.mem_of_getElem? (i := 101) (by decide +kernel))
theorem sw_4_103 : (Jvm.Cond.arrayClass Jvm.ClassFile.FieldType.long) ∈ lw_tbl := lw_t4 (List.mem_of_getElem? (i := 103) (by decide +kernel))
theorem sw_4_102 : (Jvm.Cond.arrayClass Jvm.ClassFile.FieldType.boolean) ∈ lw_tbl := lw_t4 (List.mem_of_getElem? (i := 102) (by decide +kernel))
theorem sw_1_54 : (Jvm.Cond.arrayOver (Jvm.ClassFile.FieldType.object "AppendStore$Rec")) ∈ lw_tbl := lw_t1 (List.mem_of_getElem? (i := 54) (by decide +kernel))
theorem sw_1_33 : (Jvm.Cond.arrayOver (Jvm.ClassFile.FieldType.object "AppendStore$StoreFile")) ∈ lw_tbl := lw_t1 (List.mem_of_getElem? (i := 33) (by decide +kernel))
theorem sw_2_127 : (Jvm.Cond.stringRef "AppendStore" (204 : Nat) "a number is outside its range") ∈ lw_tbl := lw_t2 (List.mem_of_getElem? (i := 127) (by decide +kernel))
theorem sw_2_166 : (Jvm.Cond.stringRef "AppendStore" (202 : Nat) "the store is closed") ∈ lw_tbl := lw_t2 (List.mem_of_getElem? (i := 166) (by decide +kernel))
theorem sw_2_209 : (Jvm.Cond.stringRef "AppendStore" (219 : Nat) "full") ∈ lw_tbl := lw_t2 (List.mem_of_getElem? (i := 209) (by decide +kernel))
theorem sw_3_36 : (Jvm.Cond.stringRef "AppendStore" (63 : Nat) "the key has no value") ∈ lw_tbl := lw_t3 (List.mem_of_getElem? (i := 36) (by decide +kernel))
theorem sw_3_58 : (Jvm.Cond.stringRef "AppendStore" (76 : Nat) "the record is broken") ∈ lw_tbl := lw_t3 (List.mem_of_getElem? (i := 58) (by decide +kernel))
theorem sw_3_81 : (Jvm.Cond.stringRef "AppendStore" (91 : Nat) "there is no such key") ∈ lw_tbl := lw_t3 (List.mem_of_getElem? (i := 81) (by decide +kernel))
theorem sw_3_129 : (Jvm.Cond.stringRef "AppendStore" (148 : Nat) "there is no sealed file") ∈ lw_tbl := lw_t3 (List.mem_of_getElem? (i := 129) (by decide +kernel))
theorem sw_3_207 : (Jvm.Cond.stringRef "AppendStore" (168 : Nat) "there is no such file") ∈ lw_tbl := lw_t3 (List.mem_of_getElem? (i := 207) (by decide +kernel))
theorem sw_3_237 : (Jvm.Cond.stringRef "AppendStore" (210 : Nat) "there is no such byte") ∈ lw_tbl := lw_t3 (List.mem_of_getElem? (i := 237) (by decide +kernel))
theorem sw_2_112 : (Jvm.Cond.laysStatic "java/lang/Throwable" "UNASSIGNED_STACK" "[Ljava/lang/StackTraceElement;") ∈ lw_tbl := lw_t2 (List.mem_of_getElem? (i := 112) (by decide +kernel))
theorem sw_2_114 : (Jvm.Cond.laysStatic "java/lang/Throwable" "SUPPRESSED_SENTINEL" "Ljava/util/List;") ∈ lw_tbl := lw_t2 (List.mem_of_getElem? (i := 114) (by decide +kernel))
theorem sw_1_9 : (Jvm.Cond.initialized "java/lang/Throwable") ∈ lw_tbl := lw_t1 (List.mem_of_getElem? (i := 9) (by decide +kernel))
theorem aw_nw {w : Cond} (ho : aw_ok w = true) {A : Array Value} {s : State} (h : w.before A s = true) : va_Nw w s := by
  cases w <;> first
    | exact va_Nw.of rfl h
    | exact h
    | (simp only [aw_ok, goodWord, Bool.and_eq_true] at ho; exact va_Nw.of ho.1 h)
theorem aw_ref0 {H : Heap} {D : va_G} {dA : Nat → ClassId} : aw_R D dA (some H.size, fun _ => none) H := by
  refine ⟨fun z hz => ?_, fun a e h => ?_⟩
  · exact Option.some.inj hz
  · cases h
theorem aw_K_start {p : Program} {s : State} {m : MethodId} {meth : Method} {c : Code} {b L : Nat} {xs : Nat → Int32} (C0 : lw_At p s m meth c b L xs) : ∃ D dA, aw_K D dA s.heap.size s := by
  obtain ⟨-, -, -, -, -, hts, -, -, -, hgv⟩ := C0
  have hfl := flat_of_before _ hgv
  have haw : ∀ w ∈ aw_ws, w.before #[Value.ref b] s = true := fun w hw => hts w (List.mem_filter.mp hw).1
  have HC : ∀ i : Nat, ∃ p : ClassId × (Nat → Nat), ∀ q, aCl[i]? = some q → u_Kn s q.1 q.2.1 q.2.2 p.1 p.2 := by
    intro i
    by_cases hi : i < 8
    · rcases (show i = 0 ∨ i = 1 ∨ i = 2 ∨ i = 3 ∨ i = 4 ∨ i = 5 ∨ i = 6 ∨ i = 7 by omega) with rfl | rfl | rfl | rfl | rfl | rfl | rfl | rfl
      · obtain ⟨cC, iS, h⟩ := u_known (C := aR_A) (T := aT_A) (N := 5) haw au_A (hts _ sw_1_19)
        exact ⟨(cC, iS), fun q hq => by cases Option.some.inj hq; exact h⟩
      · obtain ⟨cC, iS, h⟩ := u_known (C := aR_D) (T := aT_D) (N := 2) haw au_D (hts _ sw_1_117)
        exact ⟨(cC, iS), fun q hq => by cases Option.some.inj hq; exact h⟩
      · obtain ⟨cC, iS, h⟩ := u_known (C := aR_G) (T := aT_G) (N := 5) haw au_G (hts _ sw_1_131)
        exact ⟨(cC, iS), fun q hq => by cases Option.some.inj hq; exact h⟩
      · obtain ⟨cC, iS, h⟩ := u_known (C := aR_O) (T := aT_O) (N := 2) haw au_O (hts _ sw_1_40)
        exact ⟨(cC, iS), fun q hq => by cases Option.some.inj hq; exact h⟩
      · obtain ⟨cC, iS, h⟩ := u_known (C := aR_R) (T := aT_R) (N := 5) haw au_R (hts _ sw_1_55)
        exact ⟨(cC, iS), fun q hq => by cases Option.some.inj hq; exact h⟩
      · obtain ⟨cC, iS, h⟩ := u_known (C := aR_S) (T := aT_S) (N := 4) haw au_S (hts _ sw_1_27)
        exact ⟨(cC, iS), fun q hq => by cases Option.some.inj hq; exact h⟩
      · obtain ⟨cC, iS, h⟩ := u_known (C := aR_F) (T := aT_F) (N := 6) haw au_F (hts _ sw_1_34)
        exact ⟨(cC, iS), fun q hq => by cases Option.some.inj hq; exact h⟩
      · obtain ⟨cC, iS, h⟩ := u_known (C := aR_M) (T := aT_M) (N := 29) haw au_M (hts _ sw_4_8)
        exact ⟨(cC, iS), fun q hq => by cases Option.some.inj hq; exact h⟩
    · refine ⟨(0, fun _ => 0), fun q hq => ?_⟩
      have h9 : aCl[i]? = none := List.getElem?_eq_none (Nat.not_lt.mp hi)
      rw [h9] at hq
      cases hq
  obtain ⟨F, hF⟩ := Classical.axiomOfChoice HC
  obtain ⟨c0, k0, p0, a0, b0, d0⟩ := Cond.arrayClass_spec (hts _ sw_1_52)
  obtain ⟨c1, k1, p1, a1, b1, d1⟩ := Cond.arrayClass_spec (hts _ sw_4_101)
  obtain ⟨c2, k2, p2, a2, b2, d2⟩ := Cond.arrayClass_spec (hts _ sw_4_103)
  obtain ⟨c3, k3, p3, a3, b3, d3⟩ := Cond.arrayClass_spec (hts _ sw_4_102)
  obtain ⟨q4, c4, k4, x4, y4, z4, v4, u4⟩ := Cond.arrayOver_spec (hts _ sw_1_54)
  obtain ⟨q5, c5, k5, x5, y5, z5, v5, u5⟩ := Cond.arrayOver_spec (hts _ sw_1_33)
  have hA : ∃ cA, s.vm.findClass "AppendStore" = some cA := by
    obtain ⟨cC, kC, hfc, -⟩ := Cond.instantiable_spec (hts _ sw_1_19)
    exact ⟨cC, hfc⟩
  obtain ⟨cA, hcA⟩ := hA
  have str : ∀ (k : Nat) (tx : String), Cond.stringRef "AppendStore" k tx ∈ lw_tbl → ∃ a, vk_R "AppendStore" k tx a s := by
    intro k tx hw
    obtain ⟨-, -, -, a, -, -, -, -, -, hev⟩ := Cond.stringRef_spec hcA (hts _ hw)
    exact ⟨a, vk_R.of (hts _ hw) hev⟩
  have hz : ∀ (n d : String), Cond.laysStatic "java/lang/Throwable" n d ∈ lw_tbl → (Cond.isRef (.static "java/lang/Throwable" n d)).before #[Value.ref b] s = true → aw_Z n d s.heap.size s s.heap := by
    intro n d hw hr
    refine ⟨va_Zqof (hts _ hw) (hts _ sw_1_9) hr (fun a ha h => absurd ha (Nat.not_lt.mpr h)), ?_⟩
    obtain ⟨c, k, i, f, a, cell, h1, h2, h3, h4, h5, h6, h7, h8, h9⟩ := Cond.laysStatic_spec (hts _ hw)
    exact ⟨c, k, i, f, a, cell, h1, h2, h3, h4, h5, h6, h7, h8, h9, Nat.not_le.mpr (Array.getElem?_eq_some_iff.mp h5).1⟩
  refine ⟨(fun i => (F i).1, fun i => (F i).2), fun t => match t with | 0 => c0 | 1 => c1 | 2 => c2 | 3 => c3 | 4 => c4 | _ => c5, ⟨fun c q hq => hF c q hq, fun k q hk => ?_⟩, fun w hw => aw_nw (aw_ws_ok hw) (haw w hw), fun q hq => ?_, hz _ _ sw_2_112 (hfl _ (by decide +kernel)), hz _ _ sw_2_114 (hfl _ (by decide +kernel)), Nat.le_refl _, fun C hC T hT hne => ?_⟩
  · by_cases hi : k < 6
    · rcases (show k = 0 ∨ k = 1 ∨ k = 2 ∨ k = 3 ∨ k = 4 ∨ k = 5 by omega) with rfl | rfl | rfl | rfl | rfl | rfl
      · cases Option.some.inj hk
        exact ⟨fun n z => ⟨fun k h => (by cases h), k0, b0, p0, d0⟩, a0⟩
      · cases Option.some.inj hk
        exact ⟨fun n z => ⟨fun k h => (by cases h), k1, b1, p1, d1⟩, a1⟩
      · cases Option.some.inj hk
        exact ⟨fun n z => ⟨fun k h => (by cases h), k2, b2, p2, d2⟩, a2⟩
      · cases Option.some.inj hk
        exact ⟨fun n z => ⟨fun k h => (by cases h), k3, b3, p3, d3⟩, a3⟩
      · cases Option.some.inj hk
        exact ⟨fun n z => ⟨fun k h => (by cases h), k4, z4, q4, v4⟩, k4, q4, z4, v4, x4, u4⟩
      · cases Option.some.inj hk
        exact ⟨fun n z => ⟨fun k h => (by cases h), k5, z5, q5, v5⟩, k5, q5, z5, v5, x5, u5⟩
    · have h9 : (aw_tys (fun t => match t with | 0 => c0 | 1 => c1 | 2 => c2 | 3 => c3 | 4 => c4 | _ => c5))[k]? = none := List.getElem?_eq_none (Nat.not_lt.mp hi)
      rw [h9] at hk
      cases hk
  · simp only [aw_ss, List.mem_cons, List.not_mem_nil, or_false] at hq
    rcases hq with rfl | rfl | rfl | rfl | rfl | rfl | rfl | rfl | rfl
    · exact str _ _ sw_2_127
    · exact str _ _ sw_2_166
    · exact str _ _ sw_2_209
    · exact str _ _ sw_3_36
    · exact str _ _ sw_3_58
    · exact str _ _ sw_3_81
    · exact str _ _ sw_3_129
    · exact str _ _ sw_3_207
    · exact str _ _ sw_3_237
  · simp only [aw_ex, List.mem_cons, List.not_mem_nil, or_false] at hC hT
    rcases hC with rfl | rfl | rfl | rfl <;> rcases hT with rfl | rfl | rfl | rfl <;> first | exact absurd rfl hne | exact va_Nc.of (hfl _ (by decide +kernel))
