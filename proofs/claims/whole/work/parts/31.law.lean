theorem wd_1_0 : (Jvm.Cond.initialized "AppendStoreLaw") ∈ aw_ws := aw_t1 (List.mem_of_getElem? (i := 0) (by decide +kernel)) rfl
theorem wd_1_170 : (Jvm.Cond.methodLink "AppendStoreLaw" (98 : Nat) ({ cls := "AppendStore", name := "open", desc := "(Z)I" } : Jvm.MethodName)) ∈ aw_ws := aw_t1 (List.mem_of_getElem? (i := 170) (by decide +kernel)) rfl
theorem wd_1_171 : (Jvm.Cond.instanceMethod ({ cls := "AppendStore", name := "open", desc := "(Z)I" } : Jvm.MethodName)) ∈ aw_ws := aw_t1 (List.mem_of_getElem? (i := 171) (by decide +kernel)) rfl
theorem wd_1_172 : (Jvm.Cond.selects "AppendStore" ({ cls := "AppendStore", name := "open", desc := "(Z)I" } : Jvm.MethodName) ({ cls := "AppendStore", name := "open", desc := "(Z)I" } : Jvm.MethodName)) ∈ aw_ws := aw_t1 (List.mem_of_getElem? (i := 172) (by decide +kernel)) rfl
theorem wd_1_173 : (Jvm.Cond.code ({ cls := "AppendStore", name := "open", desc := "(Z)I" } : Jvm.MethodName) prog_1_method_9_code (4 : Nat) (Option.some Jvm.ClassFile.FieldType.int)) ∈ aw_ws := aw_t1 (List.mem_of_getElem? (i := 173) (by decide +kernel)) rfl
theorem wd_2_68 : (Jvm.Cond.methodLink "AppendStoreLaw" (107 : Nat) ({ cls := "AppendStore", name := "files", desc := "()I" } : Jvm.MethodName)) ∈ aw_ws := aw_t2 (List.mem_of_getElem? (i := 68) (by decide +kernel)) rfl
theorem wd_2_69 : (Jvm.Cond.instanceMethod ({ cls := "AppendStore", name := "files", desc := "()I" } : Jvm.MethodName)) ∈ aw_ws := aw_t2 (List.mem_of_getElem? (i := 69) (by decide +kernel)) rfl
theorem wd_2_70 : (Jvm.Cond.selects "AppendStore" ({ cls := "AppendStore", name := "files", desc := "()I" } : Jvm.MethodName) ({ cls := "AppendStore", name := "files", desc := "()I" } : Jvm.MethodName)) ∈ aw_ws := aw_t2 (List.mem_of_getElem? (i := 70) (by decide +kernel)) rfl
theorem wd_2_71 : (Jvm.Cond.code ({ cls := "AppendStore", name := "files", desc := "()I" } : Jvm.MethodName) prog_1_method_11_code (1 : Nat) (Option.some Jvm.ClassFile.FieldType.int)) ∈ aw_ws := aw_t2 (List.mem_of_getElem? (i := 71) (by decide +kernel)) rfl
theorem wd_2_72 : (Jvm.Cond.methodLink "AppendStoreLaw" (66 : Nat) ({ cls := "AppendStoreLaw", name := "put", desc := "(LAppendStore;JIJI)I" } : Jvm.MethodName)) ∈ aw_ws := aw_t2 (List.mem_of_getElem? (i := 72) (by decide +kernel)) rfl
theorem wd_2_73 : (Jvm.Cond.static ({ cls := "AppendStoreLaw", name := "put", desc := "(LAppendStore;JIJI)I" } : Jvm.MethodName)) ∈ aw_ws := aw_t2 (List.mem_of_getElem? (i := 73) (by decide +kernel)) rfl
theorem wd_2_74 : (Jvm.Cond.codeWith ({ cls := "AppendStoreLaw", name := "put", desc := "(LAppendStore;JIJI)I" } : Jvm.MethodName) method_3_code (8 : Nat) (Option.some Jvm.ClassFile.FieldType.int) [((0 : Nat), (10 : Nat), (13 : Nat), (13 : Nat)), ((0 : Nat), (10 : Nat), (17 : Nat), (15 : Nat)), ((0 : Nat), (10 : Nat), (21 : Nat), (17 : Nat))]) ∈ aw_ws := aw_t2 (List.mem_of_getElem? (i := 74) (by decide +kernel)) rfl
theorem wd_2_75 : (Jvm.Cond.classLink "AppendStoreLaw" (13 : Nat) "java/lang/IllegalArgumentException") ∈ aw_ws := aw_t2 (List.mem_of_getElem? (i := 75) (by decide +kernel)) rfl
theorem wd_2_76 : (Jvm.Cond.classLink "AppendStoreLaw" (15 : Nat) "java/lang/IllegalStateException") ∈ aw_ws := aw_t2 (List.mem_of_getElem? (i := 76) (by decide +kernel)) rfl
theorem wd_2_77 : (Jvm.Cond.classLink "AppendStoreLaw" (17 : Nat) "java/lang/UnsupportedOperationException") ∈ aw_ws := aw_t2 (List.mem_of_getElem? (i := 77) (by decide +kernel)) rfl
theorem wd_2_78 : (Jvm.Cond.methodLink "AppendStoreLaw" (7 : Nat) ({ cls := "AppendStore", name := "put", desc := "(JIJI)V" } : Jvm.MethodName)) ∈ aw_ws := aw_t2 (List.mem_of_getElem? (i := 78) (by decide +kernel)) rfl
theorem wd_2_79 : (Jvm.Cond.instanceMethod ({ cls := "AppendStore", name := "put", desc := "(JIJI)V" } : Jvm.MethodName)) ∈ aw_ws := aw_t2 (List.mem_of_getElem? (i := 79) (by decide +kernel)) rfl
theorem wd_2_80 : (Jvm.Cond.selects "AppendStore" ({ cls := "AppendStore", name := "put", desc := "(JIJI)V" } : Jvm.MethodName) ({ cls := "AppendStore", name := "put", desc := "(JIJI)V" } : Jvm.MethodName)) ∈ aw_ws := aw_t2 (List.mem_of_getElem? (i := 80) (by decide +kernel)) rfl
theorem wd_2_81 : (Jvm.Cond.code ({ cls := "AppendStore", name := "put", desc := "(JIJI)V" } : Jvm.MethodName) prog_1_method_2_code (7 : Nat) (Option.none : Option Jvm.ClassFile.FieldType)) ∈ aw_ws := aw_t2 (List.mem_of_getElem? (i := 81) (by decide +kernel)) rfl
theorem wd_3_8 : (Jvm.Cond.methodLink "AppendStoreLaw" (75 : Nat) ({ cls := "AppendStoreLaw", name := "delete", desc := "(LAppendStore;JI[J)I" } : Jvm.MethodName)) ∈ aw_ws := aw_t3 (List.mem_of_getElem? (i := 8) (by decide +kernel)) rfl
theorem wd_3_9 : (Jvm.Cond.static ({ cls := "AppendStoreLaw", name := "delete", desc := "(LAppendStore;JI[J)I" } : Jvm.MethodName)) ∈ aw_ws := aw_t3 (List.mem_of_getElem? (i := 9) (by decide +kernel)) rfl
theorem wd_3_10 : (Jvm.Cond.codeWith ({ cls := "AppendStoreLaw", name := "delete", desc := "(LAppendStore;JI[J)I" } : Jvm.MethodName) method_4_code (6 : Nat) (Option.some Jvm.ClassFile.FieldType.int) [((0 : Nat), (18 : Nat), (21 : Nat), (13 : Nat)), ((0 : Nat), (18 : Nat), (25 : Nat), (15 : Nat)), ((0 : Nat), (18 : Nat), (29 : Nat), (17 : Nat))]) ∈ aw_ws := aw_t3 (List.mem_of_getElem? (i := 10) (by decide +kernel)) rfl
theorem wd_3_11 : (Jvm.Cond.methodLink "AppendStoreLaw" (19 : Nat) ({ cls := "AppendStore", name := "delete", desc := "(JI)Z" } : Jvm.MethodName)) ∈ aw_ws := aw_t3 (List.mem_of_getElem? (i := 11) (by decide +kernel)) rfl
theorem wd_3_12 : (Jvm.Cond.instanceMethod ({ cls := "AppendStore", name := "delete", desc := "(JI)Z" } : Jvm.MethodName)) ∈ aw_ws := aw_t3 (List.mem_of_getElem? (i := 12) (by decide +kernel)) rfl
theorem wd_3_13 : (Jvm.Cond.selects "AppendStore" ({ cls := "AppendStore", name := "delete", desc := "(JI)Z" } : Jvm.MethodName) ({ cls := "AppendStore", name := "delete", desc := "(JI)Z" } : Jvm.MethodName)) ∈ aw_ws := aw_t3 (List.mem_of_getElem? (i := 13) (by decide +kernel)) rfl
theorem wd_3_14 : (Jvm.Cond.code ({ cls := "AppendStore", name := "delete", desc := "(JI)Z" } : Jvm.MethodName) prog_1_method_3_code (6 : Nat) (Option.some Jvm.ClassFile.FieldType.boolean)) ∈ aw_ws := aw_t3 (List.mem_of_getElem? (i := 14) (by decide +kernel)) rfl
theorem wd_3_19 : (Jvm.Cond.methodLink "AppendStoreLaw" (79 : Nat) ({ cls := "AppendStoreLaw", name := "get", desc := "(LAppendStore;JI[J)I" } : Jvm.MethodName)) ∈ aw_ws := aw_t3 (List.mem_of_getElem? (i := 19) (by decide +kernel)) rfl
theorem wd_3_20 : (Jvm.Cond.static ({ cls := "AppendStoreLaw", name := "get", desc := "(LAppendStore;JI[J)I" } : Jvm.MethodName)) ∈ aw_ws := aw_t3 (List.mem_of_getElem? (i := 20) (by decide +kernel)) rfl
theorem wd_3_21 : (Jvm.Cond.codeWith ({ cls := "AppendStoreLaw", name := "get", desc := "(LAppendStore;JI[J)I" } : Jvm.MethodName) method_5_code (6 : Nat) (Option.some Jvm.ClassFile.FieldType.int) [((0 : Nat), (10 : Nat), (13 : Nat), (13 : Nat)), ((0 : Nat), (10 : Nat), (17 : Nat), (15 : Nat)), ((0 : Nat), (10 : Nat), (21 : Nat), (27 : Nat)), ((0 : Nat), (10 : Nat), (25 : Nat), (17 : Nat))]) ∈ aw_ws := aw_t3 (List.mem_of_getElem? (i := 21) (by decide +kernel)) rfl
theorem wd_3_22 : (Jvm.Cond.classLink "AppendStoreLaw" (27 : Nat) "java/util/NoSuchElementException") ∈ aw_ws := aw_t3 (List.mem_of_getElem? (i := 22) (by decide +kernel)) rfl
theorem wd_3_23 : (Jvm.Cond.methodLink "AppendStoreLaw" (23 : Nat) ({ cls := "AppendStore", name := "get", desc := "(JI)J" } : Jvm.MethodName)) ∈ aw_ws := aw_t3 (List.mem_of_getElem? (i := 23) (by decide +kernel)) rfl
theorem wd_3_24 : (Jvm.Cond.instanceMethod ({ cls := "AppendStore", name := "get", desc := "(JI)J" } : Jvm.MethodName)) ∈ aw_ws := aw_t3 (List.mem_of_getElem? (i := 24) (by decide +kernel)) rfl
theorem wd_3_25 : (Jvm.Cond.selects "AppendStore" ({ cls := "AppendStore", name := "get", desc := "(JI)J" } : Jvm.MethodName) ({ cls := "AppendStore", name := "get", desc := "(JI)J" } : Jvm.MethodName)) ∈ aw_ws := aw_t3 (List.mem_of_getElem? (i := 25) (by decide +kernel)) rfl
theorem wd_3_26 : (Jvm.Cond.code ({ cls := "AppendStore", name := "get", desc := "(JI)J" } : Jvm.MethodName) prog_1_method_4_code (5 : Nat) (Option.some Jvm.ClassFile.FieldType.long)) ∈ aw_ws := aw_t3 (List.mem_of_getElem? (i := 26) (by decide +kernel)) rfl
theorem wd_3_66 : (Jvm.Cond.methodLink "AppendStoreLaw" (82 : Nat) ({ cls := "AppendStoreLaw", name := "keys", desc := "(LAppendStore;[J)I" } : Jvm.MethodName)) ∈ aw_ws := aw_t3 (List.mem_of_getElem? (i := 66) (by decide +kernel)) rfl
theorem wd_3_67 : (Jvm.Cond.static ({ cls := "AppendStoreLaw", name := "keys", desc := "(LAppendStore;[J)I" } : Jvm.MethodName)) ∈ aw_ws := aw_t3 (List.mem_of_getElem? (i := 67) (by decide +kernel)) rfl
theorem wd_3_68 : (Jvm.Cond.codeWith ({ cls := "AppendStoreLaw", name := "keys", desc := "(LAppendStore;[J)I" } : Jvm.MethodName) method_6_code (3 : Nat) (Option.some Jvm.ClassFile.FieldType.int) [((0 : Nat), (8 : Nat), (11 : Nat), (15 : Nat))]) ∈ aw_ws := aw_t3 (List.mem_of_getElem? (i := 68) (by decide +kernel)) rfl
theorem wd_3_69 : (Jvm.Cond.methodLink "AppendStoreLaw" (29 : Nat) ({ cls := "AppendStore", name := "keys", desc := "()I" } : Jvm.MethodName)) ∈ aw_ws := aw_t3 (List.mem_of_getElem? (i := 69) (by decide +kernel)) rfl
theorem wd_3_70 : (Jvm.Cond.instanceMethod ({ cls := "AppendStore", name := "keys", desc := "()I" } : Jvm.MethodName)) ∈ aw_ws := aw_t3 (List.mem_of_getElem? (i := 70) (by decide +kernel)) rfl
theorem wd_3_71 : (Jvm.Cond.selects "AppendStore" ({ cls := "AppendStore", name := "keys", desc := "()I" } : Jvm.MethodName) ({ cls := "AppendStore", name := "keys", desc := "()I" } : Jvm.MethodName)) ∈ aw_ws := aw_t3 (List.mem_of_getElem? (i := 71) (by decide +kernel)) rfl
theorem wd_3_72 : (Jvm.Cond.code ({ cls := "AppendStore", name := "keys", desc := "()I" } : Jvm.MethodName) prog_1_method_5_code (1 : Nat) (Option.some Jvm.ClassFile.FieldType.int)) ∈ aw_ws := aw_t3 (List.mem_of_getElem? (i := 72) (by decide +kernel)) rfl
theorem wd_3_73 : (Jvm.Cond.methodLink "AppendStoreLaw" (86 : Nat) ({ cls := "AppendStoreLaw", name := "key", desc := "(LAppendStore;II[J)I" } : Jvm.MethodName)) ∈ aw_ws := aw_t3 (List.mem_of_getElem? (i := 73) (by decide +kernel)) rfl
theorem wd_3_74 : (Jvm.Cond.static ({ cls := "AppendStoreLaw", name := "key", desc := "(LAppendStore;II[J)I" } : Jvm.MethodName)) ∈ aw_ws := aw_t3 (List.mem_of_getElem? (i := 74) (by decide +kernel)) rfl
theorem wd_3_75 : (Jvm.Cond.codeWith ({ cls := "AppendStoreLaw", name := "key", desc := "(LAppendStore;II[J)I" } : Jvm.MethodName) method_7_code (5 : Nat) (Option.some Jvm.ClassFile.FieldType.int) [((0 : Nat), (9 : Nat), (12 : Nat), (13 : Nat)), ((0 : Nat), (9 : Nat), (16 : Nat), (15 : Nat)), ((0 : Nat), (9 : Nat), (20 : Nat), (27 : Nat))]) ∈ aw_ws := aw_t3 (List.mem_of_getElem? (i := 75) (by decide +kernel)) rfl
theorem wd_3_76 : (Jvm.Cond.methodLink "AppendStoreLaw" (33 : Nat) ({ cls := "AppendStore", name := "key", desc := "(II)J" } : Jvm.MethodName)) ∈ aw_ws := aw_t3 (List.mem_of_getElem? (i := 76) (by decide +kernel)) rfl
theorem wd_3_77 : (Jvm.Cond.instanceMethod ({ cls := "AppendStore", name := "key", desc := "(II)J" } : Jvm.MethodName)) ∈ aw_ws := aw_t3 (List.mem_of_getElem? (i := 77) (by decide +kernel)) rfl
theorem wd_3_78 : (Jvm.Cond.selects "AppendStore" ({ cls := "AppendStore", name := "key", desc := "(II)J" } : Jvm.MethodName) ({ cls := "AppendStore", name := "key", desc := "(II)J" } : Jvm.MethodName)) ∈ aw_ws := aw_t3 (List.mem_of_getElem? (i := 78) (by decide +kernel)) rfl
theorem wd_3_79 : (Jvm.Cond.code ({ cls := "AppendStore", name := "key", desc := "(II)J" } : Jvm.MethodName) prog_1_method_6_code (4 : Nat) (Option.some Jvm.ClassFile.FieldType.long)) ∈ aw_ws := aw_t3 (List.mem_of_getElem? (i := 79) (by decide +kernel)) rfl
theorem wd_3_91 : (Jvm.Cond.methodLink "AppendStoreLaw" (90 : Nat) ({ cls := "AppendStoreLaw", name := "sync", desc := "(LAppendStore;)I" } : Jvm.MethodName)) ∈ aw_ws := aw_t3 (List.mem_of_getElem? (i := 91) (by decide +kernel)) rfl
theorem wd_3_92 : (Jvm.Cond.static ({ cls := "AppendStoreLaw", name := "sync", desc := "(LAppendStore;)I" } : Jvm.MethodName)) ∈ aw_ws := aw_t3 (List.mem_of_getElem? (i := 92) (by decide +kernel)) rfl
theorem wd_3_93 : (Jvm.Cond.codeWith ({ cls := "AppendStoreLaw", name := "sync", desc := "(LAppendStore;)I" } : Jvm.MethodName) method_8_code (2 : Nat) (Option.some Jvm.ClassFile.FieldType.int) [((0 : Nat), (4 : Nat), (7 : Nat), (15 : Nat))]) ∈ aw_ws := aw_t3 (List.mem_of_getElem? (i := 93) (by decide +kernel)) rfl
theorem wd_3_94 : (Jvm.Cond.methodLink "AppendStoreLaw" (37 : Nat) ({ cls := "AppendStore", name := "sync", desc := "()V" } : Jvm.MethodName)) ∈ aw_ws := aw_t3 (List.mem_of_getElem? (i := 94) (by decide +kernel)) rfl
theorem wd_3_95 : (Jvm.Cond.instanceMethod ({ cls := "AppendStore", name := "sync", desc := "()V" } : Jvm.MethodName)) ∈ aw_ws := aw_t3 (List.mem_of_getElem? (i := 95) (by decide +kernel)) rfl
theorem wd_3_96 : (Jvm.Cond.selects "AppendStore" ({ cls := "AppendStore", name := "sync", desc := "()V" } : Jvm.MethodName) ({ cls := "AppendStore", name := "sync", desc := "()V" } : Jvm.MethodName)) ∈ aw_ws := aw_t3 (List.mem_of_getElem? (i := 96) (by decide +kernel)) rfl
theorem wd_3_97 : (Jvm.Cond.code ({ cls := "AppendStore", name := "sync", desc := "()V" } : Jvm.MethodName) prog_1_method_7_code (1 : Nat) (Option.none : Option Jvm.ClassFile.FieldType)) ∈ aw_ws := aw_t3 (List.mem_of_getElem? (i := 97) (by decide +kernel)) rfl
theorem wd_3_99 : (Jvm.Cond.methodLink "AppendStoreLaw" (94 : Nat) ({ cls := "AppendStoreLaw", name := "lose", desc := "(LAppendStore;I)I" } : Jvm.MethodName)) ∈ aw_ws := aw_t3 (List.mem_of_getElem? (i := 99) (by decide +kernel)) rfl
theorem wd_3_100 : (Jvm.Cond.static ({ cls := "AppendStoreLaw", name := "lose", desc := "(LAppendStore;I)I" } : Jvm.MethodName)) ∈ aw_ws := aw_t3 (List.mem_of_getElem? (i := 100) (by decide +kernel)) rfl
theorem wd_3_101 : (Jvm.Cond.codeWith ({ cls := "AppendStoreLaw", name := "lose", desc := "(LAppendStore;I)I" } : Jvm.MethodName) method_9_code (3 : Nat) (Option.some Jvm.ClassFile.FieldType.int) [((0 : Nat), (5 : Nat), (8 : Nat), (13 : Nat))]) ∈ aw_ws := aw_t3 (List.mem_of_getElem? (i := 101) (by decide +kernel)) rfl
theorem wd_3_102 : (Jvm.Cond.methodLink "AppendStoreLaw" (40 : Nat) ({ cls := "AppendStore", name := "lose", desc := "(I)V" } : Jvm.MethodName)) ∈ aw_ws := aw_t3 (List.mem_of_getElem? (i := 102) (by decide +kernel)) rfl
theorem wd_3_103 : (Jvm.Cond.instanceMethod ({ cls := "AppendStore", name := "lose", desc := "(I)V" } : Jvm.MethodName)) ∈ aw_ws := aw_t3 (List.mem_of_getElem? (i := 103) (by decide +kernel)) rfl
theorem wd_3_104 : (Jvm.Cond.selects "AppendStore" ({ cls := "AppendStore", name := "lose", desc := "(I)V" } : Jvm.MethodName) ({ cls := "AppendStore", name := "lose", desc := "(I)V" } : Jvm.MethodName)) ∈ aw_ws := aw_t3 (List.mem_of_getElem? (i := 104) (by decide +kernel)) rfl
theorem wd_3_105 : (Jvm.Cond.code ({ cls := "AppendStore", name := "lose", desc := "(I)V" } : Jvm.MethodName) prog_1_method_8_code (2 : Nat) (Option.none : Option Jvm.ClassFile.FieldType)) ∈ aw_ws := aw_t3 (List.mem_of_getElem? (i := 105) (by decide +kernel)) rfl
theorem wd_3_114 : (Jvm.Cond.methodLink "AppendStoreLaw" (103 : Nat) ({ cls := "AppendStoreLaw", name := "merge", desc := "(LAppendStore;I[J)I" } : Jvm.MethodName)) ∈ aw_ws := aw_t3 (List.mem_of_getElem? (i := 114) (by decide +kernel)) rfl
theorem wd_3_115 : (Jvm.Cond.static ({ cls := "AppendStoreLaw", name := "merge", desc := "(LAppendStore;I[J)I" } : Jvm.MethodName)) ∈ aw_ws := aw_t3 (List.mem_of_getElem? (i := 115) (by decide +kernel)) rfl
theorem wd_3_116 : (Jvm.Cond.codeWith ({ cls := "AppendStoreLaw", name := "merge", desc := "(LAppendStore;I[J)I" } : Jvm.MethodName) method_10_code (4 : Nat) (Option.some Jvm.ClassFile.FieldType.int) [((0 : Nat), (16 : Nat), (19 : Nat), (13 : Nat)), ((0 : Nat), (16 : Nat), (22 : Nat), (15 : Nat))]) ∈ aw_ws := aw_t3 (List.mem_of_getElem? (i := 116) (by decide +kernel)) rfl
theorem wd_3_117 : (Jvm.Cond.methodLink "AppendStoreLaw" (44 : Nat) ({ cls := "AppendStore", name := "merge", desc := "(I)Z" } : Jvm.MethodName)) ∈ aw_ws := aw_t3 (List.mem_of_getElem? (i := 117) (by decide +kernel)) rfl
theorem wd_3_118 : (Jvm.Cond.instanceMethod ({ cls := "AppendStore", name := "merge", desc := "(I)Z" } : Jvm.MethodName)) ∈ aw_ws := aw_t3 (List.mem_of_getElem? (i := 118) (by decide +kernel)) rfl
theorem wd_3_119 : (Jvm.Cond.selects "AppendStore" ({ cls := "AppendStore", name := "merge", desc := "(I)Z" } : Jvm.MethodName) ({ cls := "AppendStore", name := "merge", desc := "(I)Z" } : Jvm.MethodName)) ∈ aw_ws := aw_t3 (List.mem_of_getElem? (i := 119) (by decide +kernel)) rfl
theorem wd_3_120 : (Jvm.Cond.code ({ cls := "AppendStore", name := "merge", desc := "(I)Z" } : Jvm.MethodName) prog_1_method_10_code (2 : Nat) (Option.some Jvm.ClassFile.FieldType.boolean)) ∈ aw_ws := aw_t3 (List.mem_of_getElem? (i := 120) (by decide +kernel)) rfl
theorem wd_3_200 : (Jvm.Cond.methodLink "AppendStoreLaw" (111 : Nat) ({ cls := "AppendStoreLaw", name := "file", desc := "(LAppendStore;II[J)I" } : Jvm.MethodName)) ∈ aw_ws := aw_t3 (List.mem_of_getElem? (i := 200) (by decide +kernel)) rfl
theorem wd_3_201 : (Jvm.Cond.static ({ cls := "AppendStoreLaw", name := "file", desc := "(LAppendStore;II[J)I" } : Jvm.MethodName)) ∈ aw_ws := aw_t3 (List.mem_of_getElem? (i := 201) (by decide +kernel)) rfl
theorem wd_3_202 : (Jvm.Cond.codeWith ({ cls := "AppendStoreLaw", name := "file", desc := "(LAppendStore;II[J)I" } : Jvm.MethodName) method_11_code (5 : Nat) (Option.some Jvm.ClassFile.FieldType.int) [((0 : Nat), (10 : Nat), (13 : Nat), (13 : Nat))]) ∈ aw_ws := aw_t3 (List.mem_of_getElem? (i := 202) (by decide +kernel)) rfl
theorem wd_3_203 : (Jvm.Cond.methodLink "AppendStoreLaw" (48 : Nat) ({ cls := "AppendStore", name := "file", desc := "(II)I" } : Jvm.MethodName)) ∈ aw_ws := aw_t3 (List.mem_of_getElem? (i := 203) (by decide +kernel)) rfl
theorem wd_3_204 : (Jvm.Cond.instanceMethod ({ cls := "AppendStore", name := "file", desc := "(II)I" } : Jvm.MethodName)) ∈ aw_ws := aw_t3 (List.mem_of_getElem? (i := 204) (by decide +kernel)) rfl
theorem wd_3_205 : (Jvm.Cond.selects "AppendStore" ({ cls := "AppendStore", name := "file", desc := "(II)I" } : Jvm.MethodName) ({ cls := "AppendStore", name := "file", desc := "(II)I" } : Jvm.MethodName)) ∈ aw_ws := aw_t3 (List.mem_of_getElem? (i := 205) (by decide +kernel)) rfl
theorem wd_3_206 : (Jvm.Cond.code ({ cls := "AppendStore", name := "file", desc := "(II)I" } : Jvm.MethodName) prog_1_method_12_code (4 : Nat) (Option.some Jvm.ClassFile.FieldType.int)) ∈ aw_ws := aw_t3 (List.mem_of_getElem? (i := 206) (by decide +kernel)) rfl
theorem wd_3_225 : (Jvm.Cond.methodLink "AppendStoreLaw" (114 : Nat) ({ cls := "AppendStoreLaw", name := "octet", desc := "(LAppendStore;IIZ[J)I" } : Jvm.MethodName)) ∈ aw_ws := aw_t3 (List.mem_of_getElem? (i := 225) (by decide +kernel)) rfl
theorem wd_3_226 : (Jvm.Cond.static ({ cls := "AppendStoreLaw", name := "octet", desc := "(LAppendStore;IIZ[J)I" } : Jvm.MethodName)) ∈ aw_ws := aw_t3 (List.mem_of_getElem? (i := 226) (by decide +kernel)) rfl
theorem wd_3_227 : (Jvm.Cond.codeWith ({ cls := "AppendStoreLaw", name := "octet", desc := "(LAppendStore;IIZ[J)I" } : Jvm.MethodName) method_12_code (6 : Nat) (Option.some Jvm.ClassFile.FieldType.int) [((0 : Nat), (12 : Nat), (15 : Nat), (13 : Nat))]) ∈ aw_ws := aw_t3 (List.mem_of_getElem? (i := 227) (by decide +kernel)) rfl
theorem wd_3_228 : (Jvm.Cond.methodLink "AppendStoreLaw" (52 : Nat) ({ cls := "AppendStore", name := "octet", desc := "(IIZ)I" } : Jvm.MethodName)) ∈ aw_ws := aw_t3 (List.mem_of_getElem? (i := 228) (by decide +kernel)) rfl
theorem wd_3_229 : (Jvm.Cond.instanceMethod ({ cls := "AppendStore", name := "octet", desc := "(IIZ)I" } : Jvm.MethodName)) ∈ aw_ws := aw_t3 (List.mem_of_getElem? (i := 229) (by decide +kernel)) rfl
theorem wd_3_230 : (Jvm.Cond.selects "AppendStore" ({ cls := "AppendStore", name := "octet", desc := "(IIZ)I" } : Jvm.MethodName) ({ cls := "AppendStore", name := "octet", desc := "(IIZ)I" } : Jvm.MethodName)) ∈ aw_ws := aw_t3 (List.mem_of_getElem? (i := 230) (by decide +kernel)) rfl
theorem wd_3_231 : (Jvm.Cond.code ({ cls := "AppendStore", name := "octet", desc := "(IIZ)I" } : Jvm.MethodName) prog_1_method_13_code (4 : Nat) (Option.some Jvm.ClassFile.FieldType.int)) ∈ aw_ws := aw_t3 (List.mem_of_getElem? (i := 231) (by decide +kernel)) rfl
theorem wd_3_239 : (Jvm.Cond.methodLink "AppendStoreLaw" (118 : Nat) ({ cls := "AppendStoreLaw", name := "spoil", desc := "(LAppendStore;IIZI)I" } : Jvm.MethodName)) ∈ aw_ws := aw_t3 (List.mem_of_getElem? (i := 239) (by decide +kernel)) rfl
theorem wd_4_0 : (Jvm.Cond.static ({ cls := "AppendStoreLaw", name := "spoil", desc := "(LAppendStore;IIZI)I" } : Jvm.MethodName)) ∈ aw_ws := aw_t4 (List.mem_of_getElem? (i := 0) (by decide +kernel)) rfl
theorem wd_4_1 : (Jvm.Cond.codeWith ({ cls := "AppendStoreLaw", name := "spoil", desc := "(LAppendStore;IIZI)I" } : Jvm.MethodName) method_13_code (6 : Nat) (Option.some Jvm.ClassFile.FieldType.int) [((0 : Nat), (9 : Nat), (12 : Nat), (13 : Nat))]) ∈ aw_ws := aw_t4 (List.mem_of_getElem? (i := 1) (by decide +kernel)) rfl
theorem wd_4_2 : (Jvm.Cond.methodLink "AppendStoreLaw" (56 : Nat) ({ cls := "AppendStore", name := "spoil", desc := "(IIZI)V" } : Jvm.MethodName)) ∈ aw_ws := aw_t4 (List.mem_of_getElem? (i := 2) (by decide +kernel)) rfl
theorem wd_4_3 : (Jvm.Cond.instanceMethod ({ cls := "AppendStore", name := "spoil", desc := "(IIZI)V" } : Jvm.MethodName)) ∈ aw_ws := aw_t4 (List.mem_of_getElem? (i := 3) (by decide +kernel)) rfl
theorem wd_4_4 : (Jvm.Cond.selects "AppendStore" ({ cls := "AppendStore", name := "spoil", desc := "(IIZI)V" } : Jvm.MethodName) ({ cls := "AppendStore", name := "spoil", desc := "(IIZI)V" } : Jvm.MethodName)) ∈ aw_ws := aw_t4 (List.mem_of_getElem? (i := 4) (by decide +kernel)) rfl
theorem wd_4_5 : (Jvm.Cond.code ({ cls := "AppendStore", name := "spoil", desc := "(IIZI)V" } : Jvm.MethodName) prog_1_method_14_code (6 : Nat) (Option.none : Option Jvm.ClassFile.FieldType)) ∈ aw_ws := aw_t4 (List.mem_of_getElem? (i := 5) (by decide +kernel)) rfl
theorem wd_4_104 : (Jvm.Cond.methodLink "AppendStoreLaw" (72 : Nat) ({ cls := "AppendStoreModel", name := "thrown", desc := "()I" } : Jvm.MethodName)) ∈ aw_ws := aw_t4 (List.mem_of_getElem? (i := 104) (by decide +kernel)) rfl
theorem wd_4_105 : (Jvm.Cond.instanceMethod ({ cls := "AppendStoreModel", name := "thrown", desc := "()I" } : Jvm.MethodName)) ∈ aw_ws := aw_t4 (List.mem_of_getElem? (i := 105) (by decide +kernel)) rfl
theorem wd_4_106 : (Jvm.Cond.selects "AppendStoreModel" ({ cls := "AppendStoreModel", name := "thrown", desc := "()I" } : Jvm.MethodName) ({ cls := "AppendStoreModel", name := "thrown", desc := "()I" } : Jvm.MethodName)) ∈ aw_ws := aw_t4 (List.mem_of_getElem? (i := 106) (by decide +kernel)) rfl
theorem wd_4_107 : (Jvm.Cond.code ({ cls := "AppendStoreModel", name := "thrown", desc := "()I" } : Jvm.MethodName) prog_11_method_2_code (1 : Nat) (Option.some Jvm.ClassFile.FieldType.int)) ∈ aw_ws := aw_t4 (List.mem_of_getElem? (i := 107) (by decide +kernel)) rfl
theorem wd_4_108 : (Jvm.Cond.methodLink "AppendStoreLaw" (71 : Nat) ({ cls := "AppendStoreModel", name := "put", desc := "(JIJI)V" } : Jvm.MethodName)) ∈ aw_ws := aw_t4 (List.mem_of_getElem? (i := 108) (by decide +kernel)) rfl
theorem wd_4_109 : (Jvm.Cond.instanceMethod ({ cls := "AppendStoreModel", name := "put", desc := "(JIJI)V" } : Jvm.MethodName)) ∈ aw_ws := aw_t4 (List.mem_of_getElem? (i := 109) (by decide +kernel)) rfl
theorem wd_4_110 : (Jvm.Cond.selects "AppendStoreModel" ({ cls := "AppendStoreModel", name := "put", desc := "(JIJI)V" } : Jvm.MethodName) ({ cls := "AppendStoreModel", name := "put", desc := "(JIJI)V" } : Jvm.MethodName)) ∈ aw_ws := aw_t4 (List.mem_of_getElem? (i := 110) (by decide +kernel)) rfl
theorem wd_4_111 : (Jvm.Cond.code ({ cls := "AppendStoreModel", name := "put", desc := "(JIJI)V" } : Jvm.MethodName) prog_11_method_26_code (7 : Nat) (Option.none : Option Jvm.ClassFile.FieldType)) ∈ aw_ws := aw_t4 (List.mem_of_getElem? (i := 111) (by decide +kernel)) rfl
theorem wd_4_164 : (Jvm.Cond.methodLink "AppendStoreLaw" (78 : Nat) ({ cls := "AppendStoreModel", name := "delete", desc := "(JI)Z" } : Jvm.MethodName)) ∈ aw_ws := aw_t4 (List.mem_of_getElem? (i := 164) (by decide +kernel)) rfl
theorem wd_4_165 : (Jvm.Cond.instanceMethod ({ cls := "AppendStoreModel", name := "delete", desc := "(JI)Z" } : Jvm.MethodName)) ∈ aw_ws := aw_t4 (List.mem_of_getElem? (i := 165) (by decide +kernel)) rfl
theorem wd_4_166 : (Jvm.Cond.selects "AppendStoreModel" ({ cls := "AppendStoreModel", name := "delete", desc := "(JI)Z" } : Jvm.MethodName) ({ cls := "AppendStoreModel", name := "delete", desc := "(JI)Z" } : Jvm.MethodName)) ∈ aw_ws := aw_t4 (List.mem_of_getElem? (i := 166) (by decide +kernel)) rfl
theorem wd_4_167 : (Jvm.Cond.code ({ cls := "AppendStoreModel", name := "delete", desc := "(JI)Z" } : Jvm.MethodName) prog_11_method_27_code (4 : Nat) (Option.some Jvm.ClassFile.FieldType.boolean)) ∈ aw_ws := aw_t4 (List.mem_of_getElem? (i := 167) (by decide +kernel)) rfl
theorem wd_4_172 : (Jvm.Cond.methodLink "AppendStoreLaw" (81 : Nat) ({ cls := "AppendStoreModel", name := "get", desc := "(JI)J" } : Jvm.MethodName)) ∈ aw_ws := aw_t4 (List.mem_of_getElem? (i := 172) (by decide +kernel)) rfl
theorem wd_4_173 : (Jvm.Cond.instanceMethod ({ cls := "AppendStoreModel", name := "get", desc := "(JI)J" } : Jvm.MethodName)) ∈ aw_ws := aw_t4 (List.mem_of_getElem? (i := 173) (by decide +kernel)) rfl
theorem wd_4_174 : (Jvm.Cond.selects "AppendStoreModel" ({ cls := "AppendStoreModel", name := "get", desc := "(JI)J" } : Jvm.MethodName) ({ cls := "AppendStoreModel", name := "get", desc := "(JI)J" } : Jvm.MethodName)) ∈ aw_ws := aw_t4 (List.mem_of_getElem? (i := 174) (by decide +kernel)) rfl
theorem wd_4_175 : (Jvm.Cond.code ({ cls := "AppendStoreModel", name := "get", desc := "(JI)J" } : Jvm.MethodName) prog_11_method_28_code (8 : Nat) (Option.some Jvm.ClassFile.FieldType.long)) ∈ aw_ws := aw_t4 (List.mem_of_getElem? (i := 175) (by decide +kernel)) rfl
theorem wd_4_192 : (Jvm.Cond.methodLink "AppendStoreLaw" (85 : Nat) ({ cls := "AppendStoreModel", name := "keys", desc := "()I" } : Jvm.MethodName)) ∈ aw_ws := aw_t4 (List.mem_of_getElem? (i := 192) (by decide +kernel)) rfl
theorem wd_4_193 : (Jvm.Cond.instanceMethod ({ cls := "AppendStoreModel", name := "keys", desc := "()I" } : Jvm.MethodName)) ∈ aw_ws := aw_t4 (List.mem_of_getElem? (i := 193) (by decide +kernel)) rfl
theorem wd_4_194 : (Jvm.Cond.selects "AppendStoreModel" ({ cls := "AppendStoreModel", name := "keys", desc := "()I" } : Jvm.MethodName) ({ cls := "AppendStoreModel", name := "keys", desc := "()I" } : Jvm.MethodName)) ∈ aw_ws := aw_t4 (List.mem_of_getElem? (i := 194) (by decide +kernel)) rfl
theorem wd_4_195 : (Jvm.Cond.code ({ cls := "AppendStoreModel", name := "keys", desc := "()I" } : Jvm.MethodName) prog_11_method_29_code (1 : Nat) (Option.some Jvm.ClassFile.FieldType.int)) ∈ aw_ws := aw_t4 (List.mem_of_getElem? (i := 195) (by decide +kernel)) rfl
theorem wd_4_196 : (Jvm.Cond.methodLink "AppendStoreLaw" (89 : Nat) ({ cls := "AppendStoreModel", name := "key", desc := "(II)J" } : Jvm.MethodName)) ∈ aw_ws := aw_t4 (List.mem_of_getElem? (i := 196) (by decide +kernel)) rfl
theorem wd_4_197 : (Jvm.Cond.instanceMethod ({ cls := "AppendStoreModel", name := "key", desc := "(II)J" } : Jvm.MethodName)) ∈ aw_ws := aw_t4 (List.mem_of_getElem? (i := 197) (by decide +kernel)) rfl
theorem wd_4_198 : (Jvm.Cond.selects "AppendStoreModel" ({ cls := "AppendStoreModel", name := "key", desc := "(II)J" } : Jvm.MethodName) ({ cls := "AppendStoreModel", name := "key", desc := "(II)J" } : Jvm.MethodName)) ∈ aw_ws := aw_t4 (List.mem_of_getElem? (i := 198) (by decide +kernel)) rfl
theorem wd_4_199 : (Jvm.Cond.code ({ cls := "AppendStoreModel", name := "key", desc := "(II)J" } : Jvm.MethodName) prog_11_method_30_code (5 : Nat) (Option.some Jvm.ClassFile.FieldType.long)) ∈ aw_ws := aw_t4 (List.mem_of_getElem? (i := 199) (by decide +kernel)) rfl
theorem wd_4_212 : (Jvm.Cond.methodLink "AppendStoreLaw" (93 : Nat) ({ cls := "AppendStoreModel", name := "sync", desc := "()V" } : Jvm.MethodName)) ∈ aw_ws := aw_t4 (List.mem_of_getElem? (i := 212) (by decide +kernel)) rfl
theorem wd_4_213 : (Jvm.Cond.instanceMethod ({ cls := "AppendStoreModel", name := "sync", desc := "()V" } : Jvm.MethodName)) ∈ aw_ws := aw_t4 (List.mem_of_getElem? (i := 213) (by decide +kernel)) rfl
theorem wd_4_214 : (Jvm.Cond.selects "AppendStoreModel" ({ cls := "AppendStoreModel", name := "sync", desc := "()V" } : Jvm.MethodName) ({ cls := "AppendStoreModel", name := "sync", desc := "()V" } : Jvm.MethodName)) ∈ aw_ws := aw_t4 (List.mem_of_getElem? (i := 214) (by decide +kernel)) rfl
theorem wd_4_215 : (Jvm.Cond.code ({ cls := "AppendStoreModel", name := "sync", desc := "()V" } : Jvm.MethodName) prog_11_method_31_code (1 : Nat) (Option.none : Option Jvm.ClassFile.FieldType)) ∈ aw_ws := aw_t4 (List.mem_of_getElem? (i := 215) (by decide +kernel)) rfl
theorem wd_4_216 : (Jvm.Cond.methodLink "AppendStoreLaw" (97 : Nat) ({ cls := "AppendStoreModel", name := "lose", desc := "(I)V" } : Jvm.MethodName)) ∈ aw_ws := aw_t4 (List.mem_of_getElem? (i := 216) (by decide +kernel)) rfl
theorem wd_4_217 : (Jvm.Cond.instanceMethod ({ cls := "AppendStoreModel", name := "lose", desc := "(I)V" } : Jvm.MethodName)) ∈ aw_ws := aw_t4 (List.mem_of_getElem? (i := 217) (by decide +kernel)) rfl
theorem wd_4_218 : (Jvm.Cond.selects "AppendStoreModel" ({ cls := "AppendStoreModel", name := "lose", desc := "(I)V" } : Jvm.MethodName) ({ cls := "AppendStoreModel", name := "lose", desc := "(I)V" } : Jvm.MethodName)) ∈ aw_ws := aw_t4 (List.mem_of_getElem? (i := 218) (by decide +kernel)) rfl
theorem wd_4_219 : (Jvm.Cond.code ({ cls := "AppendStoreModel", name := "lose", desc := "(I)V" } : Jvm.MethodName) prog_11_method_32_code (4 : Nat) (Option.none : Option Jvm.ClassFile.FieldType)) ∈ aw_ws := aw_t4 (List.mem_of_getElem? (i := 219) (by decide +kernel)) rfl
theorem wd_4_220 : (Jvm.Cond.methodLink "AppendStoreLaw" (102 : Nat) ({ cls := "AppendStoreModel", name := "open", desc := "(Z)I" } : Jvm.MethodName)) ∈ aw_ws := aw_t4 (List.mem_of_getElem? (i := 220) (by decide +kernel)) rfl
theorem wd_4_221 : (Jvm.Cond.instanceMethod ({ cls := "AppendStoreModel", name := "open", desc := "(Z)I" } : Jvm.MethodName)) ∈ aw_ws := aw_t4 (List.mem_of_getElem? (i := 221) (by decide +kernel)) rfl
theorem wd_4_222 : (Jvm.Cond.selects "AppendStoreModel" ({ cls := "AppendStoreModel", name := "open", desc := "(Z)I" } : Jvm.MethodName) ({ cls := "AppendStoreModel", name := "open", desc := "(Z)I" } : Jvm.MethodName)) ∈ aw_ws := aw_t4 (List.mem_of_getElem? (i := 222) (by decide +kernel)) rfl
theorem wd_4_223 : (Jvm.Cond.code ({ cls := "AppendStoreModel", name := "open", desc := "(Z)I" } : Jvm.MethodName) prog_11_method_37_code (3 : Nat) (Option.some Jvm.ClassFile.FieldType.int)) ∈ aw_ws := aw_t4 (List.mem_of_getElem? (i := 223) (by decide +kernel)) rfl
theorem wd_5_0 : (Jvm.Cond.methodLink "AppendStoreLaw" (106 : Nat) ({ cls := "AppendStoreModel", name := "merge", desc := "(I)Z" } : Jvm.MethodName)) ∈ aw_ws := aw_t5 (List.mem_of_getElem? (i := 0) (by decide +kernel)) rfl
theorem wd_5_1 : (Jvm.Cond.instanceMethod ({ cls := "AppendStoreModel", name := "merge", desc := "(I)Z" } : Jvm.MethodName)) ∈ aw_ws := aw_t5 (List.mem_of_getElem? (i := 1) (by decide +kernel)) rfl
theorem wd_5_2 : (Jvm.Cond.selects "AppendStoreModel" ({ cls := "AppendStoreModel", name := "merge", desc := "(I)Z" } : Jvm.MethodName) ({ cls := "AppendStoreModel", name := "merge", desc := "(I)Z" } : Jvm.MethodName)) ∈ aw_ws := aw_t5 (List.mem_of_getElem? (i := 2) (by decide +kernel)) rfl
theorem wd_5_3 : (Jvm.Cond.code ({ cls := "AppendStoreModel", name := "merge", desc := "(I)Z" } : Jvm.MethodName) prog_11_method_42_code (4 : Nat) (Option.some Jvm.ClassFile.FieldType.boolean)) ∈ aw_ws := aw_t5 (List.mem_of_getElem? (i := 3) (by decide +kernel)) rfl
theorem wd_5_29 : (Jvm.Cond.methodLink "AppendStoreLaw" (110 : Nat) ({ cls := "AppendStoreModel", name := "files", desc := "()I" } : Jvm.MethodName)) ∈ aw_ws := aw_t5 (List.mem_of_getElem? (i := 29) (by decide +kernel)) rfl
theorem wd_5_30 : (Jvm.Cond.instanceMethod ({ cls := "AppendStoreModel", name := "files", desc := "()I" } : Jvm.MethodName)) ∈ aw_ws := aw_t5 (List.mem_of_getElem? (i := 30) (by decide +kernel)) rfl
theorem wd_5_31 : (Jvm.Cond.selects "AppendStoreModel" ({ cls := "AppendStoreModel", name := "files", desc := "()I" } : Jvm.MethodName) ({ cls := "AppendStoreModel", name := "files", desc := "()I" } : Jvm.MethodName)) ∈ aw_ws := aw_t5 (List.mem_of_getElem? (i := 31) (by decide +kernel)) rfl
theorem wd_5_32 : (Jvm.Cond.code ({ cls := "AppendStoreModel", name := "files", desc := "()I" } : Jvm.MethodName) prog_11_method_43_code (1 : Nat) (Option.some Jvm.ClassFile.FieldType.int)) ∈ aw_ws := aw_t5 (List.mem_of_getElem? (i := 32) (by decide +kernel)) rfl
theorem wd_5_33 : (Jvm.Cond.methodLink "AppendStoreLaw" (113 : Nat) ({ cls := "AppendStoreModel", name := "file", desc := "(II)I" } : Jvm.MethodName)) ∈ aw_ws := aw_t5 (List.mem_of_getElem? (i := 33) (by decide +kernel)) rfl
theorem wd_5_34 : (Jvm.Cond.instanceMethod ({ cls := "AppendStoreModel", name := "file", desc := "(II)I" } : Jvm.MethodName)) ∈ aw_ws := aw_t5 (List.mem_of_getElem? (i := 34) (by decide +kernel)) rfl
theorem wd_5_35 : (Jvm.Cond.selects "AppendStoreModel" ({ cls := "AppendStoreModel", name := "file", desc := "(II)I" } : Jvm.MethodName) ({ cls := "AppendStoreModel", name := "file", desc := "(II)I" } : Jvm.MethodName)) ∈ aw_ws := aw_t5 (List.mem_of_getElem? (i := 35) (by decide +kernel)) rfl
theorem wd_5_36 : (Jvm.Cond.code ({ cls := "AppendStoreModel", name := "file", desc := "(II)I" } : Jvm.MethodName) prog_11_method_44_code (3 : Nat) (Option.some Jvm.ClassFile.FieldType.int)) ∈ aw_ws := aw_t5 (List.mem_of_getElem? (i := 36) (by decide +kernel)) rfl
theorem wd_5_41 : (Jvm.Cond.methodLink "AppendStoreLaw" (117 : Nat) ({ cls := "AppendStoreModel", name := "octet", desc := "(IIZ)I" } : Jvm.MethodName)) ∈ aw_ws := aw_t5 (List.mem_of_getElem? (i := 41) (by decide +kernel)) rfl
theorem wd_5_42 : (Jvm.Cond.instanceMethod ({ cls := "AppendStoreModel", name := "octet", desc := "(IIZ)I" } : Jvm.MethodName)) ∈ aw_ws := aw_t5 (List.mem_of_getElem? (i := 42) (by decide +kernel)) rfl
theorem wd_5_43 : (Jvm.Cond.selects "AppendStoreModel" ({ cls := "AppendStoreModel", name := "octet", desc := "(IIZ)I" } : Jvm.MethodName) ({ cls := "AppendStoreModel", name := "octet", desc := "(IIZ)I" } : Jvm.MethodName)) ∈ aw_ws := aw_t5 (List.mem_of_getElem? (i := 43) (by decide +kernel)) rfl
theorem wd_5_44 : (Jvm.Cond.code ({ cls := "AppendStoreModel", name := "octet", desc := "(IIZ)I" } : Jvm.MethodName) prog_11_method_47_code (4 : Nat) (Option.some Jvm.ClassFile.FieldType.int)) ∈ aw_ws := aw_t5 (List.mem_of_getElem? (i := 44) (by decide +kernel)) rfl
theorem wd_5_49 : (Jvm.Cond.methodLink "AppendStoreLaw" (121 : Nat) ({ cls := "AppendStoreModel", name := "spoil", desc := "(IIZI)V" } : Jvm.MethodName)) ∈ aw_ws := aw_t5 (List.mem_of_getElem? (i := 49) (by decide +kernel)) rfl
theorem wd_5_50 : (Jvm.Cond.instanceMethod ({ cls := "AppendStoreModel", name := "spoil", desc := "(IIZI)V" } : Jvm.MethodName)) ∈ aw_ws := aw_t5 (List.mem_of_getElem? (i := 50) (by decide +kernel)) rfl
theorem wd_5_51 : (Jvm.Cond.selects "AppendStoreModel" ({ cls := "AppendStoreModel", name := "spoil", desc := "(IIZI)V" } : Jvm.MethodName) ({ cls := "AppendStoreModel", name := "spoil", desc := "(IIZI)V" } : Jvm.MethodName)) ∈ aw_ws := aw_t5 (List.mem_of_getElem? (i := 51) (by decide +kernel)) rfl
theorem wd_5_52 : (Jvm.Cond.code ({ cls := "AppendStoreModel", name := "spoil", desc := "(IIZI)V" } : Jvm.MethodName) prog_11_method_48_code (5 : Nat) (Option.none : Option Jvm.ClassFile.FieldType)) ∈ aw_ws := aw_t5 (List.mem_of_getElem? (i := 52) (by decide +kernel)) rfl
theorem wd_5_53 : (Jvm.Cond.constantLong "AppendStoreLaw" (64 : Nat) (4294967295 : Int64)) ∈ aw_ws := aw_t5 (List.mem_of_getElem? (i := 53) (by decide +kernel)) rfl
theorem lk_L_7 : aw_L aR_L 7 y_A_put := Or.inl wd_2_78
theorem lk_L_19 : aw_L aR_L 19 y_A_delete := Or.inl wd_3_11
theorem lk_L_23 : aw_L aR_L 23 y_A_get := Or.inl wd_3_23
theorem lk_L_29 : aw_L aR_L 29 y_A_keys := Or.inl wd_3_69
theorem lk_L_33 : aw_L aR_L 33 y_A_key := Or.inl wd_3_76
theorem lk_L_37 : aw_L aR_L 37 y_A_sync := Or.inl wd_3_94
theorem lk_L_40 : aw_L aR_L 40 y_A_lose := Or.inl wd_3_102
theorem lk_L_44 : aw_L aR_L 44 y_A_merge := Or.inl wd_3_117
theorem lk_L_48 : aw_L aR_L 48 y_A_file := Or.inl wd_3_203
theorem lk_L_52 : aw_L aR_L 52 y_A_octet := Or.inl wd_3_228
theorem lk_L_56 : aw_L aR_L 56 y_A_spoil := Or.inl wd_4_2
theorem lk_L_71 : aw_L aR_L 71 y_M_put := Or.inl wd_4_108
theorem lk_L_72 : aw_L aR_L 72 y_M_thrown := Or.inl wd_4_104
theorem lk_L_78 : aw_L aR_L 78 y_M_delete := Or.inl wd_4_164
theorem lk_L_81 : aw_L aR_L 81 y_M_get := Or.inl wd_4_172
theorem lk_L_85 : aw_L aR_L 85 y_M_keys := Or.inl wd_4_192
theorem lk_L_89 : aw_L aR_L 89 y_M_key := Or.inl wd_4_196
theorem lk_L_93 : aw_L aR_L 93 y_M_sync := Or.inl wd_4_212
theorem lk_L_97 : aw_L aR_L 97 y_M_lose := Or.inl wd_4_216
theorem lk_L_98 : aw_L aR_L 98 y_A_open := Or.inl wd_1_170
theorem lk_L_102 : aw_L aR_L 102 y_M_open := Or.inl wd_4_220
theorem lk_L_106 : aw_L aR_L 106 y_M_merge := Or.inl wd_5_0
theorem lk_L_107 : aw_L aR_L 107 y_A_files := Or.inl wd_2_68
theorem lk_L_110 : aw_L aR_L 110 y_M_files := Or.inl wd_5_29
theorem lk_L_113 : aw_L aR_L 113 y_M_file := Or.inl wd_5_33
theorem lk_L_117 : aw_L aR_L 117 y_M_octet := Or.inl wd_5_41
theorem lk_L_121 : aw_L aR_L 121 y_M_spoil := Or.inl wd_5_49
theorem mw_A_delete : aw_Mw m_A_delete 2 := ⟨wd_3_14, wd_1_1, ⟨by decide, by decide⟩, by decide +kernel⟩
theorem mi_A_delete : aw_Mi m_A_delete := ⟨wd_3_12, wd_3_13⟩
theorem mw_A_file : aw_Mw m_A_file 2 := ⟨wd_3_206, wd_1_1, ⟨by decide, by decide⟩, by decide +kernel⟩
theorem mi_A_file : aw_Mi m_A_file := ⟨wd_3_204, wd_3_205⟩
theorem mw_A_files : aw_Mw m_A_files 0 := ⟨wd_2_71, wd_1_1, ⟨by decide, by decide⟩, by decide +kernel⟩
theorem mi_A_files : aw_Mi m_A_files := ⟨wd_2_69, wd_2_70⟩
theorem mw_A_get : aw_Mw m_A_get 2 := ⟨wd_3_26, wd_1_1, ⟨by decide, by decide⟩, by decide +kernel⟩
theorem mi_A_get : aw_Mi m_A_get := ⟨wd_3_24, wd_3_25⟩
theorem mw_A_key : aw_Mw m_A_key 2 := ⟨wd_3_79, wd_1_1, ⟨by decide, by decide⟩, by decide +kernel⟩
theorem mi_A_key : aw_Mi m_A_key := ⟨wd_3_77, wd_3_78⟩
theorem mw_A_keys : aw_Mw m_A_keys 0 := ⟨wd_3_72, wd_1_1, ⟨by decide, by decide⟩, by decide +kernel⟩
theorem mi_A_keys : aw_Mi m_A_keys := ⟨wd_3_70, wd_3_71⟩
theorem mw_A_lose : aw_Mw m_A_lose 1 := ⟨wd_3_105, wd_1_1, ⟨by decide, by decide⟩, by decide +kernel⟩
theorem mi_A_lose : aw_Mi m_A_lose := ⟨wd_3_103, wd_3_104⟩
theorem mw_A_merge : aw_Mw m_A_merge 1 := ⟨wd_3_120, wd_1_1, ⟨by decide, by decide⟩, by decide +kernel⟩
theorem mi_A_merge : aw_Mi m_A_merge := ⟨wd_3_118, wd_3_119⟩
theorem mw_A_octet : aw_Mw m_A_octet 3 := ⟨wd_3_231, wd_1_1, ⟨by decide, by decide⟩, by decide +kernel⟩
theorem mi_A_octet : aw_Mi m_A_octet := ⟨wd_3_229, wd_3_230⟩
theorem mw_A_open : aw_Mw m_A_open 1 := ⟨wd_1_173, wd_1_1, ⟨by decide, by decide⟩, by decide +kernel⟩
theorem mi_A_open : aw_Mi m_A_open := ⟨wd_1_171, wd_1_172⟩
theorem mw_A_put : aw_Mw m_A_put 4 := ⟨wd_2_81, wd_1_1, ⟨by decide, by decide⟩, by decide +kernel⟩
theorem mi_A_put : aw_Mi m_A_put := ⟨wd_2_79, wd_2_80⟩
theorem mw_A_spoil : aw_Mw m_A_spoil 4 := ⟨wd_4_5, wd_1_1, ⟨by decide, by decide⟩, by decide +kernel⟩
theorem mi_A_spoil : aw_Mi m_A_spoil := ⟨wd_4_3, wd_4_4⟩
theorem mw_A_sync : aw_Mw m_A_sync 0 := ⟨wd_3_97, wd_1_1, ⟨by decide, by decide⟩, by decide +kernel⟩
theorem mi_A_sync : aw_Mi m_A_sync := ⟨wd_3_95, wd_3_96⟩
theorem mw_M_delete : aw_Mw m_M_delete 2 := ⟨wd_4_167, wd_1_8, ⟨by decide, by decide⟩, by decide +kernel⟩
theorem mi_M_delete : aw_Mi m_M_delete := ⟨wd_4_165, wd_4_166⟩
theorem mw_M_file : aw_Mw m_M_file 2 := ⟨wd_5_36, wd_1_8, ⟨by decide, by decide⟩, by decide +kernel⟩
theorem mi_M_file : aw_Mi m_M_file := ⟨wd_5_34, wd_5_35⟩
theorem mw_M_files : aw_Mw m_M_files 0 := ⟨wd_5_32, wd_1_8, ⟨by decide, by decide⟩, by decide +kernel⟩
theorem mi_M_files : aw_Mi m_M_files := ⟨wd_5_30, wd_5_31⟩
theorem mw_M_get : aw_Mw m_M_get 2 := ⟨wd_4_175, wd_1_8, ⟨by decide, by decide⟩, by decide +kernel⟩
theorem mi_M_get : aw_Mi m_M_get := ⟨wd_4_173, wd_4_174⟩
theorem mw_M_key : aw_Mw m_M_key 2 := ⟨wd_4_199, wd_1_8, ⟨by decide, by decide⟩, by decide +kernel⟩
theorem mi_M_key : aw_Mi m_M_key := ⟨wd_4_197, wd_4_198⟩
theorem mw_M_keys : aw_Mw m_M_keys 0 := ⟨wd_4_195, wd_1_8, ⟨by decide, by decide⟩, by decide +kernel⟩
theorem mi_M_keys : aw_Mi m_M_keys := ⟨wd_4_193, wd_4_194⟩
theorem mw_M_lose : aw_Mw m_M_lose 1 := ⟨wd_4_219, wd_1_8, ⟨by decide, by decide⟩, by decide +kernel⟩
theorem mi_M_lose : aw_Mi m_M_lose := ⟨wd_4_217, wd_4_218⟩
theorem mw_M_merge : aw_Mw m_M_merge 1 := ⟨wd_5_3, wd_1_8, ⟨by decide, by decide⟩, by decide +kernel⟩
theorem mi_M_merge : aw_Mi m_M_merge := ⟨wd_5_1, wd_5_2⟩
theorem mw_M_octet : aw_Mw m_M_octet 3 := ⟨wd_5_44, wd_1_8, ⟨by decide, by decide⟩, by decide +kernel⟩
theorem mi_M_octet : aw_Mi m_M_octet := ⟨wd_5_42, wd_5_43⟩
theorem mw_M_open : aw_Mw m_M_open 1 := ⟨wd_4_223, wd_1_8, ⟨by decide, by decide⟩, by decide +kernel⟩
theorem mi_M_open : aw_Mi m_M_open := ⟨wd_4_221, wd_4_222⟩
theorem mw_M_put : aw_Mw m_M_put 4 := ⟨wd_4_111, wd_1_8, ⟨by decide, by decide⟩, by decide +kernel⟩
theorem mi_M_put : aw_Mi m_M_put := ⟨wd_4_109, wd_4_110⟩
theorem mw_M_spoil : aw_Mw m_M_spoil 4 := ⟨wd_5_52, wd_1_8, ⟨by decide, by decide⟩, by decide +kernel⟩
theorem mi_M_spoil : aw_Mi m_M_spoil := ⟨wd_5_50, wd_5_51⟩
theorem mw_M_sync : aw_Mw m_M_sync 0 := ⟨wd_4_215, wd_1_8, ⟨by decide, by decide⟩, by decide +kernel⟩
theorem mi_M_sync : aw_Mi m_M_sync := ⟨wd_4_213, wd_4_214⟩
theorem mw_M_thrown : aw_Mw m_M_thrown 0 := ⟨wd_4_107, wd_1_8, ⟨by decide, by decide⟩, by decide +kernel⟩
theorem mi_M_thrown : aw_Mi m_M_thrown := ⟨wd_4_105, wd_4_106⟩
def aj_cn : List (Nat × String) := [(13, "java/lang/IllegalArgumentException"), (15, "java/lang/IllegalStateException"), (17, "java/lang/UnsupportedOperationException"), (27, "java/util/NoSuchElementException")]
theorem aj_cn_ok : ∀ q ∈ aj_cn, q.1 ≠ 0 ∧ q.2 ∈ aw_ex ∧ Cond.classLink aR_L q.1 q.2 ∈ aw_ws := by
  intro q hq
  simp only [aj_cn, List.mem_cons, List.not_mem_nil, or_false] at hq
  rcases hq with rfl | rfl | rfl | rfl
  · exact ⟨by decide, by decide +kernel, wd_2_75⟩
  · exact ⟨by decide, by decide +kernel, wd_2_76⟩
  · exact ⟨by decide, by decide +kernel, wd_2_77⟩
  · exact ⟨by decide, by decide +kernel, wd_3_22⟩
abbrev hh_L_put : List (Nat × Nat × Nat × Nat) := [(0, 10, 13, 13), (0, 10, 17, 15), (0, 10, 21, 17)]
noncomputable def f_L_put (w : aw_W) (p1 : Option Nat) (p2 : Int64) (p3 : Int32) (p4 : Int64) (p5 : Int32) : Option (Int32 × aw_W) :=
  (aw_obj w p1 0).bind fun v1 =>
  (f_A_put w p1 p2 p3 p4 p5).bind fun v2 =>
  match v2.1 with
  | .inl x3 =>
    some ((0 : Int32), v2.2)
  | .inr E9 =>
    if E9 = "java/lang/IllegalArgumentException" then
      some ((1 : Int32), v2.2)
    else
    if E9 = "java/lang/IllegalStateException" then
      some ((2 : Int32), v2.2)
    else
    if E9 = "java/lang/UnsupportedOperationException" then
      some ((3 : Int32), v2.2)
    else
    none
abbrev rm_L_put : Room := { frames := 8, cells := 4, slots := 24, locals := 153 }
set_option maxRecDepth 100000 in
set_option maxHeartbeats 4000000 in
theorem ch_L_put (l : Launch) (hl : l.stackTraces = false) (D : va_G) (dA : Nat → ClassId) (base : Nat) (w : aw_W) (p1 : Option Nat) (p2 : Int64) (p3 : Int32) (p4 : Int64) (p5 : Int32) (r : Int32 × aw_W) (hm : f_L_put w p1 p2 p3 p4 p5 = some r) : aj_Ch l D dA base m_L_put hh_L_put rm_L_put [aRf p1, aL p2, aI p3, aL p4, aI p5] w (fun v w' => some (aI r.1) = v ∧ r.2 = w') := by
  refine aj_enterH hl (by decide) (Nat.le_of_ble_eq_true rfl) ?_
  intro Γ G F
  unfold f_L_put at hm
  refine j_aload_n G d_L_put_0 rfl ?_
  refine j_lload_n G d_L_put_1 rfl ?_
  refine j_iload_n G d_L_put_2 rfl ?_
  refine j_lload G d_L_put_3 rfl ?_
  refine j_iload G d_L_put_5 rfl ?_
  obtain ⟨v1, hv1, hm⟩ := Option.bind_eq_some_iff.mp hm
  obtain ⟨v2, hv2, hm⟩ := Option.bind_eq_some_iff.mp hm
  refine j_callVx (As := [aL p2, aI p3, aL p4, aI p5]) G d_L_put_7 (cx_A_put _ G.off _ _ _ _ _ _ _ _ _ _ hv2) mw_A_put mi_A_put wd_2_78 rfl hv1 rfl rfl (Nat.le_of_ble_eq_true rfl) ⟨by decide, by decide⟩ ⟨by decide, by decide⟩ (fun v9 w9 hp => ?_) (fun E9 w9 hp => ?_)
  · obtain ⟨x3, hx9, rfl, rfl⟩ := hp
    rw [hx9] at hm
    dsimp only at hm
    refine j_goto (tgt := 25) G d_L_put_10 rfl ?_
    refine j_iconst (v := 0) G d_L_put_25 (by decide) ?_
    obtain rfl := Option.some.inj hm
    exact j_iret G F.fin d_L_put_26 ⟨by decide, by decide⟩ ⟨rfl, rfl⟩
  · obtain ⟨hx9, rfl⟩ := hp
    rw [hx9] at hm
    dsimp only at hm
    by_cases hE0 : E9 = "java/lang/IllegalArgumentException"
    · rw [if_pos hE0] at hm
      subst hE0
      refine j_catch (hpc := 13) aj_cn G F aj_cn_ok (by decide +kernel) (by decide +kernel) (fun q9 => ?_)
      refine j_astore G d_L_put_13 (by decide) ?_
      refine j_iconst (v := 1) G d_L_put_15 (by decide) ?_
      obtain rfl := Option.some.inj hm
      exact j_iret G F.fin d_L_put_16 ⟨by decide, by decide⟩ ⟨rfl, rfl⟩
    rw [if_neg hE0] at hm
    by_cases hE1 : E9 = "java/lang/IllegalStateException"
    · rw [if_pos hE1] at hm
      subst hE1
      refine j_catch (hpc := 17) aj_cn G F aj_cn_ok (by decide +kernel) (by decide +kernel) (fun q9 => ?_)
      refine j_astore G d_L_put_17 (by decide) ?_
      refine j_iconst (v := 2) G d_L_put_19 (by decide) ?_
      obtain rfl := Option.some.inj hm
      exact j_iret G F.fin d_L_put_20 ⟨by decide, by decide⟩ ⟨rfl, rfl⟩
    rw [if_neg hE1] at hm
    by_cases hE2 : E9 = "java/lang/UnsupportedOperationException"
    · rw [if_pos hE2] at hm
      subst hE2
      refine j_catch (hpc := 21) aj_cn G F aj_cn_ok (by decide +kernel) (by decide +kernel) (fun q9 => ?_)
      refine j_astore G d_L_put_21 (by decide) ?_
      refine j_iconst (v := 3) G d_L_put_23 (by decide) ?_
      obtain rfl := Option.some.inj hm
      exact j_iret G F.fin d_L_put_24 ⟨by decide, by decide⟩ ⟨rfl, rfl⟩
    rw [if_neg hE2] at hm
    cases hm
abbrev hh_L_delete : List (Nat × Nat × Nat × Nat) := [(0, 18, 21, 13), (0, 18, 25, 15), (0, 18, 29, 17)]
noncomputable def f_L_delete (w : aw_W) (p1 : Option Nat) (p2 : Int64) (p3 : Int32) (p4 : Option Nat) : Option (Int32 × aw_W) :=
  (aw_obj w p1 0).bind fun v1 =>
  (f_A_delete w p1 p2 p3).bind fun v2 =>
  match v2.1 with
  | .inl x3 =>
    (if x3 = 0 then
        some (0 : Int64)
      else
        some (1 : Int64) : Option (Int64)).bind fun j4 =>
    (aw_sL v2.2 p4 2 (0 : Int32) j4).bind fun v5 =>
    some ((0 : Int32), v5)
  | .inr E9 =>
    if E9 = "java/lang/IllegalArgumentException" then
      some ((1 : Int32), v2.2)
    else
    if E9 = "java/lang/IllegalStateException" then
      some ((2 : Int32), v2.2)
    else
    if E9 = "java/lang/UnsupportedOperationException" then
      some ((3 : Int32), v2.2)
    else
    none
abbrev rm_L_delete : Room := { frames := 8, cells := 3, slots := 18, locals := 152 }
set_option maxRecDepth 100000 in
set_option maxHeartbeats 4000000 in
theorem ch_L_delete (l : Launch) (hl : l.stackTraces = false) (D : va_G) (dA : Nat → ClassId) (base : Nat) (w : aw_W) (p1 : Option Nat) (p2 : Int64) (p3 : Int32) (p4 : Option Nat) (r : Int32 × aw_W) (hm : f_L_delete w p1 p2 p3 p4 = some r) : aj_Ch l D dA base m_L_delete hh_L_delete rm_L_delete [aRf p1, aL p2, aI p3, aRf p4] w (fun v w' => some (aI r.1) = v ∧ r.2 = w') := by
  refine aj_enterH hl (by decide) (Nat.le_of_ble_eq_true rfl) ?_
  intro Γ G F
  unfold f_L_delete at hm
  refine j_aload G d_L_delete_0 rfl ?_
  refine j_iconst (v := 0) G d_L_delete_2 (by decide) ?_
  refine j_aload_n G d_L_delete_3 rfl ?_
  refine j_lload_n G d_L_delete_4 rfl ?_
  refine j_iload_n G d_L_delete_5 rfl ?_
  obtain ⟨v1, hv1, hm⟩ := Option.bind_eq_some_iff.mp hm
  obtain ⟨v2, hv2, hm⟩ := Option.bind_eq_some_iff.mp hm
  refine j_callVx (As := [aL p2, aI p3]) G d_L_delete_6 (cx_A_delete _ G.off _ _ _ _ _ _ _ _ hv2) mw_A_delete mi_A_delete wd_3_11 rfl hv1 rfl rfl (Nat.le_of_ble_eq_true rfl) ⟨by decide, by decide⟩ ⟨by decide, by decide⟩ (fun v9 w9 hp => ?_) (fun E9 w9 hp => ?_)
  · obtain ⟨x3, hx9, rfl, rfl⟩ := hp
    rw [hx9] at hm
    dsimp only at hm
    obtain ⟨j4, hj4, ho4⟩ := Option.bind_eq_some_iff.mp hm
    clear hm
    have hJ4 : aj_J Γ 6 (3, 18) 17 [] [aL j4, aI (0 : Int32), aRf p4] v2.2 := by
      clear hj4
      have hm := ho4
      clear ho4
      obtain ⟨v5, hv5, hm⟩ := Option.bind_eq_some_iff.mp hm
      refine j_last G d_L_delete_17 hv5 ?_
      refine j_goto (tgt := 33) G d_L_delete_18 rfl ?_
      refine j_iconst (v := 0) G d_L_delete_33 (by decide) ?_
      obtain rfl := Option.some.inj hm
      exact j_iret G F.fin d_L_delete_34 ⟨by decide, by decide⟩ ⟨rfl, rfl⟩
    clear ho4
    have hm := hj4
    clear hj4
    refine j_if_eq (tgt := 16) G d_L_delete_9 rfl (fun hc => ?_) (fun hc => ?_)
    · rw [if_pos hc] at hm
      refine j_lconst (v := 0) G d_L_delete_16 (by decide) ?_
      obtain rfl := Option.some.inj hm
      refine j_lv [] rfl ?_
      exact hJ4
    · rw [if_neg hc] at hm
      refine j_lconst (v := 1) G d_L_delete_12 (by decide) ?_
      refine j_goto (tgt := 17) G d_L_delete_13 rfl ?_
      obtain rfl := Option.some.inj hm
      refine j_lv [] rfl ?_
      exact hJ4
  · obtain ⟨hx9, rfl⟩ := hp
    rw [hx9] at hm
    dsimp only at hm
    by_cases hE0 : E9 = "java/lang/IllegalArgumentException"
    · rw [if_pos hE0] at hm
      subst hE0
      refine j_catch (hpc := 21) aj_cn G F aj_cn_ok (by decide +kernel) (by decide +kernel) (fun q9 => ?_)
      refine j_astore G d_L_delete_21 (by decide) ?_
      refine j_iconst (v := 1) G d_L_delete_23 (by decide) ?_
      obtain rfl := Option.some.inj hm
      exact j_iret G F.fin d_L_delete_24 ⟨by decide, by decide⟩ ⟨rfl, rfl⟩
    rw [if_neg hE0] at hm
    by_cases hE1 : E9 = "java/lang/IllegalStateException"
    · rw [if_pos hE1] at hm
      subst hE1
      refine j_catch (hpc := 25) aj_cn G F aj_cn_ok (by decide +kernel) (by decide +kernel) (fun q9 => ?_)
      refine j_astore G d_L_delete_25 (by decide) ?_
      refine j_iconst (v := 2) G d_L_delete_27 (by decide) ?_
      obtain rfl := Option.some.inj hm
      exact j_iret G F.fin d_L_delete_28 ⟨by decide, by decide⟩ ⟨rfl, rfl⟩
    rw [if_neg hE1] at hm
    by_cases hE2 : E9 = "java/lang/UnsupportedOperationException"
    · rw [if_pos hE2] at hm
      subst hE2
      refine j_catch (hpc := 29) aj_cn G F aj_cn_ok (by decide +kernel) (by decide +kernel) (fun q9 => ?_)
      refine j_astore G d_L_delete_29 (by decide) ?_
      refine j_iconst (v := 3) G d_L_delete_31 (by decide) ?_
      obtain rfl := Option.some.inj hm
      exact j_iret G F.fin d_L_delete_32 ⟨by decide, by decide⟩ ⟨rfl, rfl⟩
    rw [if_neg hE2] at hm
    cases hm
abbrev hh_L_get : List (Nat × Nat × Nat × Nat) := [(0, 10, 13, 13), (0, 10, 17, 15), (0, 10, 21, 27), (0, 10, 25, 17)]
noncomputable def f_L_get (w : aw_W) (p1 : Option Nat) (p2 : Int64) (p3 : Int32) (p4 : Option Nat) : Option (Int32 × aw_W) :=
  (aw_obj w p1 0).bind fun v1 =>
  (f_A_get w p1 p2 p3).bind fun v2 =>
  match v2.1 with
  | .inl x3 =>
    (aw_sL v2.2 p4 2 (0 : Int32) x3).bind fun v4 =>
    some ((0 : Int32), v4)
  | .inr E9 =>
    if E9 = "java/lang/IllegalArgumentException" then
      some ((1 : Int32), v2.2)
    else
    if E9 = "java/lang/IllegalStateException" then
      some ((2 : Int32), v2.2)
    else
    if E9 = "java/util/NoSuchElementException" then
      some ((3 : Int32), v2.2)
    else
    if E9 = "java/lang/UnsupportedOperationException" then
      some ((4 : Int32), v2.2)
    else
    none
abbrev rm_L_get : Room := { frames := 8, cells := 3, slots := 18, locals := 128 }
set_option maxRecDepth 100000 in
set_option maxHeartbeats 4000000 in
theorem ch_L_get (l : Launch) (hl : l.stackTraces = false) (D : va_G) (dA : Nat → ClassId) (base : Nat) (w : aw_W) (p1 : Option Nat) (p2 : Int64) (p3 : Int32) (p4 : Option Nat) (r : Int32 × aw_W) (hm : f_L_get w p1 p2 p3 p4 = some r) : aj_Ch l D dA base m_L_get hh_L_get rm_L_get [aRf p1, aL p2, aI p3, aRf p4] w (fun v w' => some (aI r.1) = v ∧ r.2 = w') := by
  refine aj_enterH hl (by decide) (Nat.le_of_ble_eq_true rfl) ?_
  intro Γ G F
  unfold f_L_get at hm
  refine j_aload G d_L_get_0 rfl ?_
  refine j_iconst (v := 0) G d_L_get_2 (by decide) ?_
  refine j_aload_n G d_L_get_3 rfl ?_
  refine j_lload_n G d_L_get_4 rfl ?_
  refine j_iload_n G d_L_get_5 rfl ?_
  obtain ⟨v1, hv1, hm⟩ := Option.bind_eq_some_iff.mp hm
  obtain ⟨v2, hv2, hm⟩ := Option.bind_eq_some_iff.mp hm
  refine j_callVx (As := [aL p2, aI p3]) G d_L_get_6 (cx_A_get _ G.off _ _ _ _ _ _ _ _ hv2) mw_A_get mi_A_get wd_3_23 rfl hv1 rfl rfl (Nat.le_of_ble_eq_true rfl) ⟨by decide, by decide⟩ ⟨by decide, by decide⟩ (fun v9 w9 hp => ?_) (fun E9 w9 hp => ?_)
  · obtain ⟨x3, hx9, rfl, rfl⟩ := hp
    rw [hx9] at hm
    dsimp only at hm
    obtain ⟨v4, hv4, hm⟩ := Option.bind_eq_some_iff.mp hm
    refine j_last G d_L_get_9 hv4 ?_
    refine j_goto (tgt := 29) G d_L_get_10 rfl ?_
    refine j_iconst (v := 0) G d_L_get_29 (by decide) ?_
    obtain rfl := Option.some.inj hm
    exact j_iret G F.fin d_L_get_30 ⟨by decide, by decide⟩ ⟨rfl, rfl⟩
  · obtain ⟨hx9, rfl⟩ := hp
    rw [hx9] at hm
    dsimp only at hm
    by_cases hE0 : E9 = "java/lang/IllegalArgumentException"
    · rw [if_pos hE0] at hm
      subst hE0
      refine j_catch (hpc := 13) aj_cn G F aj_cn_ok (by decide +kernel) (by decide +kernel) (fun q9 => ?_)
      refine j_astore G d_L_get_13 (by decide) ?_
      refine j_iconst (v := 1) G d_L_get_15 (by decide) ?_
      obtain rfl := Option.some.inj hm
      exact j_iret G F.fin d_L_get_16 ⟨by decide, by decide⟩ ⟨rfl, rfl⟩
    rw [if_neg hE0] at hm
    by_cases hE1 : E9 = "java/lang/IllegalStateException"
    · rw [if_pos hE1] at hm
      subst hE1
      refine j_catch (hpc := 17) aj_cn G F aj_cn_ok (by decide +kernel) (by decide +kernel) (fun q9 => ?_)
      refine j_astore G d_L_get_17 (by decide) ?_
      refine j_iconst (v := 2) G d_L_get_19 (by decide) ?_
      obtain rfl := Option.some.inj hm
      exact j_iret G F.fin d_L_get_20 ⟨by decide, by decide⟩ ⟨rfl, rfl⟩
    rw [if_neg hE1] at hm
    by_cases hE2 : E9 = "java/util/NoSuchElementException"
    · rw [if_pos hE2] at hm
      subst hE2
      refine j_catch (hpc := 21) aj_cn G F aj_cn_ok (by decide +kernel) (by decide +kernel) (fun q9 => ?_)
      refine j_astore G d_L_get_21 (by decide) ?_
      refine j_iconst (v := 3) G d_L_get_23 (by decide) ?_
      obtain rfl := Option.some.inj hm
      exact j_iret G F.fin d_L_get_24 ⟨by decide, by decide⟩ ⟨rfl, rfl⟩
    rw [if_neg hE2] at hm
    by_cases hE3 : E9 = "java/lang/UnsupportedOperationException"
    · rw [if_pos hE3] at hm
      subst hE3
      refine j_catch (hpc := 25) aj_cn G F aj_cn_ok (by decide +kernel) (by decide +kernel) (fun q9 => ?_)
      refine j_astore G d_L_get_25 (by decide) ?_
      refine j_iconst (v := 4) G d_L_get_27 (by decide) ?_
      obtain rfl := Option.some.inj hm
      exact j_iret G F.fin d_L_get_28 ⟨by decide, by decide⟩ ⟨rfl, rfl⟩
    rw [if_neg hE3] at hm
    cases hm
abbrev hh_L_keys : List (Nat × Nat × Nat × Nat) := [(0, 8, 11, 15)]
noncomputable def f_L_keys (w : aw_W) (p1 : Option Nat) (p2 : Option Nat) : Option (Int32 × aw_W) :=
  (aw_obj w p1 0).bind fun v1 =>
  (f_A_keys w p1).bind fun v2 =>
  match v2.1 with
  | .inl x3 =>
    (aw_sL v2.2 p2 2 (0 : Int32) x3.toInt64).bind fun v4 =>
    some ((0 : Int32), v4)
  | .inr E9 =>
    if E9 = "java/lang/IllegalStateException" then
      some ((1 : Int32), v2.2)
    else
    none
abbrev rm_L_keys : Room := { frames := 8, cells := 1, slots := 6, locals := 122 }
set_option maxRecDepth 100000 in
set_option maxHeartbeats 4000000 in
theorem ch_L_keys (l : Launch) (hl : l.stackTraces = false) (D : va_G) (dA : Nat → ClassId) (base : Nat) (w : aw_W) (p1 : Option Nat) (p2 : Option Nat) (r : Int32 × aw_W) (hm : f_L_keys w p1 p2 = some r) : aj_Ch l D dA base m_L_keys hh_L_keys rm_L_keys [aRf p1, aRf p2] w (fun v w' => some (aI r.1) = v ∧ r.2 = w') := by
  refine aj_enterH hl (by decide) (Nat.le_of_ble_eq_true rfl) ?_
  intro Γ G F
  unfold f_L_keys at hm
  refine j_aload_n G d_L_keys_0 rfl ?_
  refine j_iconst (v := 0) G d_L_keys_1 (by decide) ?_
  refine j_aload_n G d_L_keys_2 rfl ?_
  obtain ⟨v1, hv1, hm⟩ := Option.bind_eq_some_iff.mp hm
  obtain ⟨v2, hv2, hm⟩ := Option.bind_eq_some_iff.mp hm
  refine j_callVx (As := []) G d_L_keys_3 (cx_A_keys _ G.off _ _ _ _ _ _ hv2) mw_A_keys mi_A_keys wd_3_69 rfl hv1 rfl rfl (Nat.le_of_ble_eq_true rfl) ⟨by decide, by decide⟩ ⟨by decide, by decide⟩ (fun v9 w9 hp => ?_) (fun E9 w9 hp => ?_)
  · obtain ⟨x3, hx9, rfl, rfl⟩ := hp
    rw [hx9] at hm
    dsimp only at hm
    refine j_i2l G d_L_keys_6 ?_
    obtain ⟨v4, hv4, hm⟩ := Option.bind_eq_some_iff.mp hm
    refine j_last G d_L_keys_7 hv4 ?_
    refine j_goto (tgt := 14) G d_L_keys_8 rfl ?_
    refine j_iconst (v := 0) G d_L_keys_14 (by decide) ?_
    obtain rfl := Option.some.inj hm
    exact j_iret G F.fin d_L_keys_15 ⟨by decide, by decide⟩ ⟨rfl, rfl⟩
  · obtain ⟨hx9, rfl⟩ := hp
    rw [hx9] at hm
    dsimp only at hm
    by_cases hE0 : E9 = "java/lang/IllegalStateException"
    · rw [if_pos hE0] at hm
      subst hE0
      refine j_catch (hpc := 11) aj_cn G F aj_cn_ok (by decide +kernel) (by decide +kernel) (fun q9 => ?_)
      refine j_astore_n G d_L_keys_11 (by decide) ?_
      refine j_iconst (v := 1) G d_L_keys_12 (by decide) ?_
      obtain rfl := Option.some.inj hm
      exact j_iret G F.fin d_L_keys_13 ⟨by decide, by decide⟩ ⟨rfl, rfl⟩
    rw [if_neg hE0] at hm
    cases hm
abbrev hh_L_key : List (Nat × Nat × Nat × Nat) := [(0, 9, 12, 13), (0, 9, 16, 15), (0, 9, 20, 27)]
noncomputable def f_L_key (w : aw_W) (p1 : Option Nat) (p2 : Int32) (p3 : Int32) (p4 : Option Nat) : Option (Int32 × aw_W) :=
  (aw_obj w p1 0).bind fun v1 =>
  (f_A_key w p1 p2 p3).bind fun v2 =>
  match v2.1 with
  | .inl x3 =>
    (aw_sL v2.2 p4 2 (0 : Int32) x3).bind fun v4 =>
    some ((0 : Int32), v4)
  | .inr E9 =>
    if E9 = "java/lang/IllegalArgumentException" then
      some ((1 : Int32), v2.2)
    else
    if E9 = "java/lang/IllegalStateException" then
      some ((2 : Int32), v2.2)
    else
    if E9 = "java/util/NoSuchElementException" then
      some ((3 : Int32), v2.2)
    else
    none
abbrev rm_L_key : Room := { frames := 8, cells := 3, slots := 18, locals := 127 }
set_option maxRecDepth 100000 in
set_option maxHeartbeats 4000000 in
theorem ch_L_key (l : Launch) (hl : l.stackTraces = false) (D : va_G) (dA : Nat → ClassId) (base : Nat) (w : aw_W) (p1 : Option Nat) (p2 : Int32) (p3 : Int32) (p4 : Option Nat) (r : Int32 × aw_W) (hm : f_L_key w p1 p2 p3 p4 = some r) : aj_Ch l D dA base m_L_key hh_L_key rm_L_key [aRf p1, aI p2, aI p3, aRf p4] w (fun v w' => some (aI r.1) = v ∧ r.2 = w') := by
  refine aj_enterH hl (by decide) (Nat.le_of_ble_eq_true rfl) ?_
  intro Γ G F
  unfold f_L_key at hm
  refine j_aload_n G d_L_key_0 rfl ?_
  refine j_iconst (v := 0) G d_L_key_1 (by decide) ?_
  refine j_aload_n G d_L_key_2 rfl ?_
  refine j_iload_n G d_L_key_3 rfl ?_
  refine j_iload_n G d_L_key_4 rfl ?_
  obtain ⟨v1, hv1, hm⟩ := Option.bind_eq_some_iff.mp hm
  obtain ⟨v2, hv2, hm⟩ := Option.bind_eq_some_iff.mp hm
  refine j_callVx (As := [aI p2, aI p3]) G d_L_key_5 (cx_A_key _ G.off _ _ _ _ _ _ _ _ hv2) mw_A_key mi_A_key wd_3_76 rfl hv1 rfl rfl (Nat.le_of_ble_eq_true rfl) ⟨by decide, by decide⟩ ⟨by decide, by decide⟩ (fun v9 w9 hp => ?_) (fun E9 w9 hp => ?_)
  · obtain ⟨x3, hx9, rfl, rfl⟩ := hp
    rw [hx9] at hm
    dsimp only at hm
    obtain ⟨v4, hv4, hm⟩ := Option.bind_eq_some_iff.mp hm
    refine j_last G d_L_key_8 hv4 ?_
    refine j_goto (tgt := 24) G d_L_key_9 rfl ?_
    refine j_iconst (v := 0) G d_L_key_24 (by decide) ?_
    obtain rfl := Option.some.inj hm
    exact j_iret G F.fin d_L_key_25 ⟨by decide, by decide⟩ ⟨rfl, rfl⟩
  · obtain ⟨hx9, rfl⟩ := hp
    rw [hx9] at hm
    dsimp only at hm
    by_cases hE0 : E9 = "java/lang/IllegalArgumentException"
    · rw [if_pos hE0] at hm
      subst hE0
      refine j_catch (hpc := 12) aj_cn G F aj_cn_ok (by decide +kernel) (by decide +kernel) (fun q9 => ?_)
      refine j_astore G d_L_key_12 (by decide) ?_
      refine j_iconst (v := 1) G d_L_key_14 (by decide) ?_
      obtain rfl := Option.some.inj hm
      exact j_iret G F.fin d_L_key_15 ⟨by decide, by decide⟩ ⟨rfl, rfl⟩
    rw [if_neg hE0] at hm
    by_cases hE1 : E9 = "java/lang/IllegalStateException"
    · rw [if_pos hE1] at hm
      subst hE1
      refine j_catch (hpc := 16) aj_cn G F aj_cn_ok (by decide +kernel) (by decide +kernel) (fun q9 => ?_)
      refine j_astore G d_L_key_16 (by decide) ?_
      refine j_iconst (v := 2) G d_L_key_18 (by decide) ?_
      obtain rfl := Option.some.inj hm
      exact j_iret G F.fin d_L_key_19 ⟨by decide, by decide⟩ ⟨rfl, rfl⟩
    rw [if_neg hE1] at hm
    by_cases hE2 : E9 = "java/util/NoSuchElementException"
    · rw [if_pos hE2] at hm
      subst hE2
      refine j_catch (hpc := 20) aj_cn G F aj_cn_ok (by decide +kernel) (by decide +kernel) (fun q9 => ?_)
      refine j_astore G d_L_key_20 (by decide) ?_
      refine j_iconst (v := 3) G d_L_key_22 (by decide) ?_
      obtain rfl := Option.some.inj hm
      exact j_iret G F.fin d_L_key_23 ⟨by decide, by decide⟩ ⟨rfl, rfl⟩
    rw [if_neg hE2] at hm
    cases hm
abbrev hh_L_sync : List (Nat × Nat × Nat × Nat) := [(0, 4, 7, 15)]
noncomputable def f_L_sync (w : aw_W) (p1 : Option Nat) : Option (Int32 × aw_W) :=
  (aw_obj w p1 0).bind fun v1 =>
  (f_A_sync w p1).bind fun v2 =>
  match v2.1 with
  | .inl x3 =>
    some ((0 : Int32), v2.2)
  | .inr E9 =>
    if E9 = "java/lang/IllegalStateException" then
      some ((1 : Int32), v2.2)
    else
    none
abbrev rm_L_sync : Room := { frames := 8, cells := 1, slots := 6, locals := 122 }
set_option maxRecDepth 100000 in
set_option maxHeartbeats 4000000 in
theorem ch_L_sync (l : Launch) (hl : l.stackTraces = false) (D : va_G) (dA : Nat → ClassId) (base : Nat) (w : aw_W) (p1 : Option Nat) (r : Int32 × aw_W) (hm : f_L_sync w p1 = some r) : aj_Ch l D dA base m_L_sync hh_L_sync rm_L_sync [aRf p1] w (fun v w' => some (aI r.1) = v ∧ r.2 = w') := by
  refine aj_enterH hl (by decide) (Nat.le_of_ble_eq_true rfl) ?_
  intro Γ G F
  unfold f_L_sync at hm
  refine j_aload_n G d_L_sync_0 rfl ?_
  obtain ⟨v1, hv1, hm⟩ := Option.bind_eq_some_iff.mp hm
  obtain ⟨v2, hv2, hm⟩ := Option.bind_eq_some_iff.mp hm
  refine j_callVx (As := []) G d_L_sync_1 (cx_A_sync _ G.off _ _ _ _ _ _ hv2) mw_A_sync mi_A_sync wd_3_94 rfl hv1 rfl rfl (Nat.le_of_ble_eq_true rfl) ⟨by decide, by decide⟩ ⟨by decide, by decide⟩ (fun v9 w9 hp => ?_) (fun E9 w9 hp => ?_)
  · obtain ⟨x3, hx9, rfl, rfl⟩ := hp
    rw [hx9] at hm
    dsimp only at hm
    refine j_goto (tgt := 10) G d_L_sync_4 rfl ?_
    refine j_iconst (v := 0) G d_L_sync_10 (by decide) ?_
    obtain rfl := Option.some.inj hm
    exact j_iret G F.fin d_L_sync_11 ⟨by decide, by decide⟩ ⟨rfl, rfl⟩
  · obtain ⟨hx9, rfl⟩ := hp
    rw [hx9] at hm
    dsimp only at hm
    by_cases hE0 : E9 = "java/lang/IllegalStateException"
    · rw [if_pos hE0] at hm
      subst hE0
      refine j_catch (hpc := 7) aj_cn G F aj_cn_ok (by decide +kernel) (by decide +kernel) (fun q9 => ?_)
      refine j_astore_n G d_L_sync_7 (by decide) ?_
      refine j_iconst (v := 1) G d_L_sync_8 (by decide) ?_
      obtain rfl := Option.some.inj hm
      exact j_iret G F.fin d_L_sync_9 ⟨by decide, by decide⟩ ⟨rfl, rfl⟩
    rw [if_neg hE0] at hm
    cases hm
abbrev hh_L_lose : List (Nat × Nat × Nat × Nat) := [(0, 5, 8, 13)]
noncomputable def f_L_lose (w : aw_W) (p1 : Option Nat) (p2 : Int32) : Option (Int32 × aw_W) :=
  (aw_obj w p1 0).bind fun v1 =>
  (f_A_lose w p1 p2).bind fun v2 =>
  match v2.1 with
  | .inl x3 =>
    some ((0 : Int32), v2.2)
  | .inr E9 =>
    if E9 = "java/lang/IllegalArgumentException" then
      some ((1 : Int32), v2.2)
    else
    none
abbrev rm_L_lose : Room := { frames := 8, cells := 1, slots := 6, locals := 125 }
set_option maxRecDepth 100000 in
set_option maxHeartbeats 4000000 in
theorem ch_L_lose (l : Launch) (hl : l.stackTraces = false) (D : va_G) (dA : Nat → ClassId) (base : Nat) (w : aw_W) (p1 : Option Nat) (p2 : Int32) (r : Int32 × aw_W) (hm : f_L_lose w p1 p2 = some r) : aj_Ch l D dA base m_L_lose hh_L_lose rm_L_lose [aRf p1, aI p2] w (fun v w' => some (aI r.1) = v ∧ r.2 = w') := by
  refine aj_enterH hl (by decide) (Nat.le_of_ble_eq_true rfl) ?_
  intro Γ G F
  unfold f_L_lose at hm
  refine j_aload_n G d_L_lose_0 rfl ?_
  refine j_iload_n G d_L_lose_1 rfl ?_
  obtain ⟨v1, hv1, hm⟩ := Option.bind_eq_some_iff.mp hm
  obtain ⟨v2, hv2, hm⟩ := Option.bind_eq_some_iff.mp hm
  refine j_callVx (As := [aI p2]) G d_L_lose_2 (cx_A_lose _ G.off _ _ _ _ _ _ _ hv2) mw_A_lose mi_A_lose wd_3_102 rfl hv1 rfl rfl (Nat.le_of_ble_eq_true rfl) ⟨by decide, by decide⟩ ⟨by decide, by decide⟩ (fun v9 w9 hp => ?_) (fun E9 w9 hp => ?_)
  · obtain ⟨x3, hx9, rfl, rfl⟩ := hp
    rw [hx9] at hm
    dsimp only at hm
    refine j_goto (tgt := 11) G d_L_lose_5 rfl ?_
    refine j_iconst (v := 0) G d_L_lose_11 (by decide) ?_
    obtain rfl := Option.some.inj hm
    exact j_iret G F.fin d_L_lose_12 ⟨by decide, by decide⟩ ⟨rfl, rfl⟩
  · obtain ⟨hx9, rfl⟩ := hp
    rw [hx9] at hm
    dsimp only at hm
    by_cases hE0 : E9 = "java/lang/IllegalArgumentException"
    · rw [if_pos hE0] at hm
      subst hE0
      refine j_catch (hpc := 8) aj_cn G F aj_cn_ok (by decide +kernel) (by decide +kernel) (fun q9 => ?_)
      refine j_astore_n G d_L_lose_8 (by decide) ?_
      refine j_iconst (v := 1) G d_L_lose_9 (by decide) ?_
      obtain rfl := Option.some.inj hm
      exact j_iret G F.fin d_L_lose_10 ⟨by decide, by decide⟩ ⟨rfl, rfl⟩
    rw [if_neg hE0] at hm
    cases hm
abbrev hh_L_merge : List (Nat × Nat × Nat × Nat) := [(0, 16, 19, 13), (0, 16, 22, 15)]
noncomputable def f_L_merge (w : aw_W) (p1 : Option Nat) (p2 : Int32) (p3 : Option Nat) : Option (Int32 × aw_W) :=
  (aw_obj w p1 0).bind fun v1 =>
  (f_A_merge w p1 p2).bind fun v2 =>
  match v2.1 with
  | .inl x3 =>
    (if x3 = 0 then
        some (0 : Int64)
      else
        some (1 : Int64) : Option (Int64)).bind fun j4 =>
    (aw_sL v2.2 p3 2 (0 : Int32) j4).bind fun v5 =>
    some ((0 : Int32), v5)
  | .inr E9 =>
    if E9 = "java/lang/IllegalArgumentException" then
      some ((1 : Int32), v2.2)
    else
    if E9 = "java/lang/IllegalStateException" then
      some ((2 : Int32), v2.2)
    else
    none
abbrev rm_L_merge : Room := { frames := 8, cells := 3, slots := 18, locals := 158 }
set_option maxRecDepth 100000 in
set_option maxHeartbeats 4000000 in
theorem ch_L_merge (l : Launch) (hl : l.stackTraces = false) (D : va_G) (dA : Nat → ClassId) (base : Nat) (w : aw_W) (p1 : Option Nat) (p2 : Int32) (p3 : Option Nat) (r : Int32 × aw_W) (hm : f_L_merge w p1 p2 p3 = some r) : aj_Ch l D dA base m_L_merge hh_L_merge rm_L_merge [aRf p1, aI p2, aRf p3] w (fun v w' => some (aI r.1) = v ∧ r.2 = w') := by
  refine aj_enterH hl (by decide) (Nat.le_of_ble_eq_true rfl) ?_
  intro Γ G F
  unfold f_L_merge at hm
  refine j_aload_n G d_L_merge_0 rfl ?_
  refine j_iconst (v := 0) G d_L_merge_1 (by decide) ?_
  refine j_aload_n G d_L_merge_2 rfl ?_
  refine j_iload_n G d_L_merge_3 rfl ?_
  obtain ⟨v1, hv1, hm⟩ := Option.bind_eq_some_iff.mp hm
  obtain ⟨v2, hv2, hm⟩ := Option.bind_eq_some_iff.mp hm
  refine j_callVx (As := [aI p2]) G d_L_merge_4 (cx_A_merge _ G.off _ _ _ _ _ _ _ hv2) mw_A_merge mi_A_merge wd_3_117 rfl hv1 rfl rfl (Nat.le_of_ble_eq_true rfl) ⟨by decide, by decide⟩ ⟨by decide, by decide⟩ (fun v9 w9 hp => ?_) (fun E9 w9 hp => ?_)
  · obtain ⟨x3, hx9, rfl, rfl⟩ := hp
    rw [hx9] at hm
    dsimp only at hm
    obtain ⟨j4, hj4, ho4⟩ := Option.bind_eq_some_iff.mp hm
    clear hm
    have hJ4 : aj_J Γ 4 (3, 18) 15 [] [aL j4, aI (0 : Int32), aRf p3] v2.2 := by
      clear hj4
      have hm := ho4
      clear ho4
      obtain ⟨v5, hv5, hm⟩ := Option.bind_eq_some_iff.mp hm
      refine j_last G d_L_merge_15 hv5 ?_
      refine j_goto (tgt := 25) G d_L_merge_16 rfl ?_
      refine j_iconst (v := 0) G d_L_merge_25 (by decide) ?_
      obtain rfl := Option.some.inj hm
      exact j_iret G F.fin d_L_merge_26 ⟨by decide, by decide⟩ ⟨rfl, rfl⟩
    clear ho4
    have hm := hj4
    clear hj4
    refine j_if_eq (tgt := 14) G d_L_merge_7 rfl (fun hc => ?_) (fun hc => ?_)
    · rw [if_pos hc] at hm
      refine j_lconst (v := 0) G d_L_merge_14 (by decide) ?_
      obtain rfl := Option.some.inj hm
      refine j_lv [] rfl ?_
      exact hJ4
    · rw [if_neg hc] at hm
      refine j_lconst (v := 1) G d_L_merge_10 (by decide) ?_
      refine j_goto (tgt := 15) G d_L_merge_11 rfl ?_
      obtain rfl := Option.some.inj hm
      refine j_lv [] rfl ?_
      exact hJ4
  · obtain ⟨hx9, rfl⟩ := hp
    rw [hx9] at hm
    dsimp only at hm
    by_cases hE0 : E9 = "java/lang/IllegalArgumentException"
    · rw [if_pos hE0] at hm
      subst hE0
      refine j_catch (hpc := 19) aj_cn G F aj_cn_ok (by decide +kernel) (by decide +kernel) (fun q9 => ?_)
      refine j_astore_n G d_L_merge_19 (by decide) ?_
      refine j_iconst (v := 1) G d_L_merge_20 (by decide) ?_
      obtain rfl := Option.some.inj hm
      exact j_iret G F.fin d_L_merge_21 ⟨by decide, by decide⟩ ⟨rfl, rfl⟩
    rw [if_neg hE0] at hm
    by_cases hE1 : E9 = "java/lang/IllegalStateException"
    · rw [if_pos hE1] at hm
      subst hE1
      refine j_catch (hpc := 22) aj_cn G F aj_cn_ok (by decide +kernel) (by decide +kernel) (fun q9 => ?_)
      refine j_astore_n G d_L_merge_22 (by decide) ?_
      refine j_iconst (v := 2) G d_L_merge_23 (by decide) ?_
      obtain rfl := Option.some.inj hm
      exact j_iret G F.fin d_L_merge_24 ⟨by decide, by decide⟩ ⟨rfl, rfl⟩
    rw [if_neg hE1] at hm
    cases hm
abbrev hh_L_file : List (Nat × Nat × Nat × Nat) := [(0, 10, 13, 13)]
noncomputable def f_L_file (w : aw_W) (p1 : Option Nat) (p2 : Int32) (p3 : Int32) (p4 : Option Nat) : Option (Int32 × aw_W) :=
  (aw_obj w p1 0).bind fun v1 =>
  (f_A_file w p1 p2 p3).bind fun v2 =>
  match v2.1 with
  | .inl x3 =>
    (aw_sL v2.2 p4 2 (0 : Int32) x3.toInt64).bind fun v4 =>
    some ((0 : Int32), v4)
  | .inr E9 =>
    if E9 = "java/lang/IllegalArgumentException" then
      some ((1 : Int32), v2.2)
    else
    none
abbrev rm_L_file : Room := { frames := 8, cells := 2, slots := 12, locals := 127 }
set_option maxRecDepth 100000 in
set_option maxHeartbeats 4000000 in
theorem ch_L_file (l : Launch) (hl : l.stackTraces = false) (D : va_G) (dA : Nat → ClassId) (base : Nat) (w : aw_W) (p1 : Option Nat) (p2 : Int32) (p3 : Int32) (p4 : Option Nat) (r : Int32 × aw_W) (hm : f_L_file w p1 p2 p3 p4 = some r) : aj_Ch l D dA base m_L_file hh_L_file rm_L_file [aRf p1, aI p2, aI p3, aRf p4] w (fun v w' => some (aI r.1) = v ∧ r.2 = w') := by
  refine aj_enterH hl (by decide) (Nat.le_of_ble_eq_true rfl) ?_
  intro Γ G F
  unfold f_L_file at hm
  refine j_aload_n G d_L_file_0 rfl ?_
  refine j_iconst (v := 0) G d_L_file_1 (by decide) ?_
  refine j_aload_n G d_L_file_2 rfl ?_
  refine j_iload_n G d_L_file_3 rfl ?_
  refine j_iload_n G d_L_file_4 rfl ?_
  obtain ⟨v1, hv1, hm⟩ := Option.bind_eq_some_iff.mp hm
  obtain ⟨v2, hv2, hm⟩ := Option.bind_eq_some_iff.mp hm
  refine j_callVx (As := [aI p2, aI p3]) G d_L_file_5 (cx_A_file _ G.off _ _ _ _ _ _ _ _ hv2) mw_A_file mi_A_file wd_3_203 rfl hv1 rfl rfl (Nat.le_of_ble_eq_true rfl) ⟨by decide, by decide⟩ ⟨by decide, by decide⟩ (fun v9 w9 hp => ?_) (fun E9 w9 hp => ?_)
  · obtain ⟨x3, hx9, rfl, rfl⟩ := hp
    rw [hx9] at hm
    dsimp only at hm
    refine j_i2l G d_L_file_8 ?_
    obtain ⟨v4, hv4, hm⟩ := Option.bind_eq_some_iff.mp hm
    refine j_last G d_L_file_9 hv4 ?_
    refine j_goto (tgt := 17) G d_L_file_10 rfl ?_
    refine j_iconst (v := 0) G d_L_file_17 (by decide) ?_
    obtain rfl := Option.some.inj hm
    exact j_iret G F.fin d_L_file_18 ⟨by decide, by decide⟩ ⟨rfl, rfl⟩
  · obtain ⟨hx9, rfl⟩ := hp
    rw [hx9] at hm
    dsimp only at hm
    by_cases hE0 : E9 = "java/lang/IllegalArgumentException"
    · rw [if_pos hE0] at hm
      subst hE0
      refine j_catch (hpc := 13) aj_cn G F aj_cn_ok (by decide +kernel) (by decide +kernel) (fun q9 => ?_)
      refine j_astore G d_L_file_13 (by decide) ?_
      refine j_iconst (v := 1) G d_L_file_15 (by decide) ?_
      obtain rfl := Option.some.inj hm
      exact j_iret G F.fin d_L_file_16 ⟨by decide, by decide⟩ ⟨rfl, rfl⟩
    rw [if_neg hE0] at hm
    cases hm
abbrev hh_L_octet : List (Nat × Nat × Nat × Nat) := [(0, 12, 15, 13)]
noncomputable def f_L_octet (w : aw_W) (p1 : Option Nat) (p2 : Int32) (p3 : Int32) (p4 : Int32) (p5 : Option Nat) : Option (Int32 × aw_W) :=
  (aw_obj w p1 0).bind fun v1 =>
  (f_A_octet w p1 p2 p3 p4).bind fun v2 =>
  match v2.1 with
  | .inl x3 =>
    (aw_sL v2.2 p5 2 (0 : Int32) x3.toInt64).bind fun v4 =>
    some ((0 : Int32), v4)
  | .inr E9 =>
    if E9 = "java/lang/IllegalArgumentException" then
      some ((1 : Int32), v2.2)
    else
    none
abbrev rm_L_octet : Room := { frames := 8, cells := 1, slots := 6, locals := 130 }
set_option maxRecDepth 100000 in
set_option maxHeartbeats 4000000 in
theorem ch_L_octet (l : Launch) (hl : l.stackTraces = false) (D : va_G) (dA : Nat → ClassId) (base : Nat) (w : aw_W) (p1 : Option Nat) (p2 : Int32) (p3 : Int32) (p4 : Int32) (p5 : Option Nat) (r : Int32 × aw_W) (hm : f_L_octet w p1 p2 p3 p4 p5 = some r) : aj_Ch l D dA base m_L_octet hh_L_octet rm_L_octet [aRf p1, aI p2, aI p3, aI p4, aRf p5] w (fun v w' => some (aI r.1) = v ∧ r.2 = w') := by
  refine aj_enterH hl (by decide) (Nat.le_of_ble_eq_true rfl) ?_
  intro Γ G F
  unfold f_L_octet at hm
  refine j_aload G d_L_octet_0 rfl ?_
  refine j_iconst (v := 0) G d_L_octet_2 (by decide) ?_
  refine j_aload_n G d_L_octet_3 rfl ?_
  refine j_iload_n G d_L_octet_4 rfl ?_
  refine j_iload_n G d_L_octet_5 rfl ?_
  refine j_iload_n G d_L_octet_6 rfl ?_
  obtain ⟨v1, hv1, hm⟩ := Option.bind_eq_some_iff.mp hm
  obtain ⟨v2, hv2, hm⟩ := Option.bind_eq_some_iff.mp hm
  refine j_callVx (As := [aI p2, aI p3, aI p4]) G d_L_octet_7 (cx_A_octet _ G.off _ _ _ _ _ _ _ _ _ hv2) mw_A_octet mi_A_octet wd_3_228 rfl hv1 rfl rfl (Nat.le_of_ble_eq_true rfl) ⟨by decide, by decide⟩ ⟨by decide, by decide⟩ (fun v9 w9 hp => ?_) (fun E9 w9 hp => ?_)
  · obtain ⟨x3, hx9, rfl, rfl⟩ := hp
    rw [hx9] at hm
    dsimp only at hm
    refine j_i2l G d_L_octet_10 ?_
    obtain ⟨v4, hv4, hm⟩ := Option.bind_eq_some_iff.mp hm
    refine j_last G d_L_octet_11 hv4 ?_
    refine j_goto (tgt := 19) G d_L_octet_12 rfl ?_
    refine j_iconst (v := 0) G d_L_octet_19 (by decide) ?_
    obtain rfl := Option.some.inj hm
    exact j_iret G F.fin d_L_octet_20 ⟨by decide, by decide⟩ ⟨rfl, rfl⟩
  · obtain ⟨hx9, rfl⟩ := hp
    rw [hx9] at hm
    dsimp only at hm
    by_cases hE0 : E9 = "java/lang/IllegalArgumentException"
    · rw [if_pos hE0] at hm
      subst hE0
      refine j_catch (hpc := 15) aj_cn G F aj_cn_ok (by decide +kernel) (by decide +kernel) (fun q9 => ?_)
      refine j_astore G d_L_octet_15 (by decide) ?_
      refine j_iconst (v := 1) G d_L_octet_17 (by decide) ?_
      obtain rfl := Option.some.inj hm
      exact j_iret G F.fin d_L_octet_18 ⟨by decide, by decide⟩ ⟨rfl, rfl⟩
    rw [if_neg hE0] at hm
    cases hm
abbrev hh_L_spoil : List (Nat × Nat × Nat × Nat) := [(0, 9, 12, 13)]
noncomputable def f_L_spoil (w : aw_W) (p1 : Option Nat) (p2 : Int32) (p3 : Int32) (p4 : Int32) (p5 : Int32) : Option (Int32 × aw_W) :=
  (aw_obj w p1 0).bind fun v1 =>
  (f_A_spoil w p1 p2 p3 p4 p5).bind fun v2 =>
  match v2.1 with
  | .inl x3 =>
    some ((0 : Int32), v2.2)
  | .inr E9 =>
    if E9 = "java/lang/IllegalArgumentException" then
      some ((1 : Int32), v2.2)
    else
    none
abbrev rm_L_spoil : Room := { frames := 8, cells := 1, slots := 6, locals := 132 }
set_option maxRecDepth 100000 in
set_option maxHeartbeats 4000000 in
theorem ch_L_spoil (l : Launch) (hl : l.stackTraces = false) (D : va_G) (dA : Nat → ClassId) (base : Nat) (w : aw_W) (p1 : Option Nat) (p2 : Int32) (p3 : Int32) (p4 : Int32) (p5 : Int32) (r : Int32 × aw_W) (hm : f_L_spoil w p1 p2 p3 p4 p5 = some r) : aj_Ch l D dA base m_L_spoil hh_L_spoil rm_L_spoil [aRf p1, aI p2, aI p3, aI p4, aI p5] w (fun v w' => some (aI r.1) = v ∧ r.2 = w') := by
  refine aj_enterH hl (by decide) (Nat.le_of_ble_eq_true rfl) ?_
  intro Γ G F
  unfold f_L_spoil at hm
  refine j_aload_n G d_L_spoil_0 rfl ?_
  refine j_iload_n G d_L_spoil_1 rfl ?_
  refine j_iload_n G d_L_spoil_2 rfl ?_
  refine j_iload_n G d_L_spoil_3 rfl ?_
  refine j_iload G d_L_spoil_4 rfl ?_
  obtain ⟨v1, hv1, hm⟩ := Option.bind_eq_some_iff.mp hm
  obtain ⟨v2, hv2, hm⟩ := Option.bind_eq_some_iff.mp hm
  refine j_callVx (As := [aI p2, aI p3, aI p4, aI p5]) G d_L_spoil_6 (cx_A_spoil _ G.off _ _ _ _ _ _ _ _ _ _ hv2) mw_A_spoil mi_A_spoil wd_4_2 rfl hv1 rfl rfl (Nat.le_of_ble_eq_true rfl) ⟨by decide, by decide⟩ ⟨by decide, by decide⟩ (fun v9 w9 hp => ?_) (fun E9 w9 hp => ?_)
  · obtain ⟨x3, hx9, rfl, rfl⟩ := hp
    rw [hx9] at hm
    dsimp only at hm
    refine j_goto (tgt := 16) G d_L_spoil_9 rfl ?_
    refine j_iconst (v := 0) G d_L_spoil_16 (by decide) ?_
    obtain rfl := Option.some.inj hm
    exact j_iret G F.fin d_L_spoil_17 ⟨by decide, by decide⟩ ⟨rfl, rfl⟩
  · obtain ⟨hx9, rfl⟩ := hp
    rw [hx9] at hm
    dsimp only at hm
    by_cases hE0 : E9 = "java/lang/IllegalArgumentException"
    · rw [if_pos hE0] at hm
      subst hE0
      refine j_catch (hpc := 12) aj_cn G F aj_cn_ok (by decide +kernel) (by decide +kernel) (fun q9 => ?_)
      refine j_astore G d_L_spoil_12 (by decide) ?_
      refine j_iconst (v := 1) G d_L_spoil_14 (by decide) ?_
      obtain rfl := Option.some.inj hm
      exact j_iret G F.fin d_L_spoil_15 ⟨by decide, by decide⟩ ⟨rfl, rfl⟩
    rw [if_neg hE0] at hm
    cases hm
