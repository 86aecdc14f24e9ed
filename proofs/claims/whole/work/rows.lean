section
/-- a private method of a class that the tables say can be made, by its rows of tables_1 -/
def lw_okq (q : MethodName × Nat) : Prop := (q.1.cls ≠ "java/lang/invoke/MethodHandle" ∧ q.1.cls ≠ "java/lang/invoke/VarHandle") ∧ Cond.instantiable q.1.cls q.2 ∈ tables_1 ∧ Cond.privateMethod q.1 ∈ tables_1 ∧ Cond.instanceMethod q.1 ∈ tables_1
theorem lw_p0 : lw_okq (⟨"AppendStore$StoreFile", "learnFromHint", "()Z"⟩, 6) := ⟨⟨by decide +kernel, by decide +kernel⟩, List.mem_of_getElem? (i := 34) (by decide +kernel), List.mem_of_getElem? (i := 211) (by decide +kernel), List.mem_of_getElem? (i := 212) (by decide +kernel)⟩
theorem lw_p1 : lw_okq (⟨"AppendStore$StoreFile", "note", "(IJILAppendStore$Rec;)LAppendStore$Rec;"⟩, 6) := ⟨⟨by decide +kernel, by decide +kernel⟩, List.mem_of_getElem? (i := 34) (by decide +kernel), List.mem_of_getElem? (i := 242) (by decide +kernel), List.mem_of_getElem? (i := 243) (by decide +kernel)⟩
theorem lw_p2 : lw_okq (⟨"AppendStore$StoreFile", "learnFromBytes", "()V"⟩, 6) := ⟨⟨by decide +kernel, by decide +kernel⟩, List.mem_of_getElem? (i := 34) (by decide +kernel), List.mem_of_getElem? (i := 252) (by decide +kernel), List.mem_of_getElem? (i := 253) (by decide +kernel)⟩
theorem lw_p3 : lw_okq (⟨"AppendStore$StoreFile", "soundSize", "(I)I"⟩, 6) := ⟨⟨by decide +kernel, by decide +kernel⟩, List.mem_of_getElem? (i := 34) (by decide +kernel), List.mem_of_getElem? (i := 256) (by decide +kernel), List.mem_of_getElem? (i := 257) (by decide +kernel)⟩
theorem lw_p4 : lw_okq (⟨"AppendStore", "enter", "(LAppendStore$StoreFile;)V"⟩, 5) := ⟨⟨by decide +kernel, by decide +kernel⟩, List.mem_of_getElem? (i := 19) (by decide +kernel), List.mem_of_getElem? (i := 269) (by decide +kernel), List.mem_of_getElem? (i := 270) (by decide +kernel)⟩
theorem lw_p5 : lw_okq (⟨"AppendStore$Directory", "firstFrom", "(J)I"⟩, 2) := ⟨⟨by decide +kernel, by decide +kernel⟩, List.mem_of_getElem? (i := 117) (by decide +kernel), List.mem_of_getElem? (i := 285) (by decide +kernel), List.mem_of_getElem? (i := 286) (by decide +kernel)⟩
theorem lw_p6 : lw_okq (⟨"AppendStore$Directory", "takeOut", "(I)V"⟩, 2) := ⟨⟨by decide +kernel, by decide +kernel⟩, List.mem_of_getElem? (i := 117) (by decide +kernel), List.mem_of_getElem? (i := 297) (by decide +kernel), List.mem_of_getElem? (i := 298) (by decide +kernel)⟩
theorem lw_p7 : lw_okq (⟨"AppendStore$Directory", "insert", "(ILAppendStore$Rec;)V"⟩, 2) := ⟨⟨by decide +kernel, by decide +kernel⟩, List.mem_of_getElem? (i := 117) (by decide +kernel), List.mem_of_getElem? (i := 301) (by decide +kernel), List.mem_of_getElem? (i := 302) (by decide +kernel)⟩
theorem lw_p8 : lw_okq (⟨"java/lang/Throwable", "fillInStackTrace", "(I)Ljava/lang/Throwable;"⟩, 6) := ⟨⟨by decide +kernel, by decide +kernel⟩, List.mem_of_getElem? (i := 365) (by decide +kernel), List.mem_of_getElem? (i := 363) (by decide +kernel), List.mem_of_getElem? (i := 364) (by decide +kernel)⟩
theorem lw_p9 : lw_okq (⟨"AppendStore", "checkOpen", "()V"⟩, 5) := ⟨⟨by decide +kernel, by decide +kernel⟩, List.mem_of_getElem? (i := 19) (by decide +kernel), List.mem_of_getElem? (i := 394) (by decide +kernel), List.mem_of_getElem? (i := 395) (by decide +kernel)⟩
theorem lw_p10 : lw_okq (⟨"AppendStore", "append", "(JJI)V"⟩, 5) := ⟨⟨by decide +kernel, by decide +kernel⟩, List.mem_of_getElem? (i := 19) (by decide +kernel), List.mem_of_getElem? (i := 415) (by decide +kernel), List.mem_of_getElem? (i := 416) (by decide +kernel)⟩
theorem lw_p11 : lw_okq (⟨"AppendStore$Merger", "outputFor", "(I)LAppendStore$StoreFile;"⟩, 5) := ⟨⟨by decide +kernel, by decide +kernel⟩, List.mem_of_getElem? (i := 131) (by decide +kernel), List.mem_of_getElem? (i := 632) (by decide +kernel), List.mem_of_getElem? (i := 633) (by decide +kernel)⟩
theorem lw_p12 : lw_okq (⟨"AppendStore", "rowWith", "(IIZ)LAppendStore$Octets;"⟩, 5) := ⟨⟨by decide +kernel, by decide +kernel⟩, List.mem_of_getElem? (i := 19) (by decide +kernel), List.mem_of_getElem? (i := 713) (by decide +kernel), List.mem_of_getElem? (i := 714) (by decide +kernel)⟩
theorem lw_p13 : lw_okq (⟨"AppendStoreModel", "full", "(I)Z"⟩, 29) := ⟨⟨by decide +kernel, by decide +kernel⟩, List.mem_of_getElem? (i := 728) (by decide +kernel), List.mem_of_getElem? (i := 839) (by decide +kernel), List.mem_of_getElem? (i := 840) (by decide +kernel)⟩
theorem lw_p14 : lw_okq (⟨"AppendStoreModel", "append", "(JIJI)V"⟩, 29) := ⟨⟨by decide +kernel, by decide +kernel⟩, List.mem_of_getElem? (i := 728) (by decide +kernel), List.mem_of_getElem? (i := 843) (by decide +kernel), List.mem_of_getElem? (i := 844) (by decide +kernel)⟩
theorem lw_p15 : lw_okq (⟨"AppendStoreModel", "clearRow", "(I)V"⟩, 29) := ⟨⟨by decide +kernel, by decide +kernel⟩, List.mem_of_getElem? (i := 728) (by decide +kernel), List.mem_of_getElem? (i := 847) (by decide +kernel), List.mem_of_getElem? (i := 848) (by decide +kernel)⟩
def lw_privs_1 : List (MethodName × Nat) := [(⟨"AppendStore$StoreFile", "learnFromHint", "()Z"⟩, 6), (⟨"AppendStore$StoreFile", "note", "(IJILAppendStore$Rec;)LAppendStore$Rec;"⟩, 6), (⟨"AppendStore$StoreFile", "learnFromBytes", "()V"⟩, 6), (⟨"AppendStore$StoreFile", "soundSize", "(I)I"⟩, 6), (⟨"AppendStore", "enter", "(LAppendStore$StoreFile;)V"⟩, 5), (⟨"AppendStore$Directory", "firstFrom", "(J)I"⟩, 2), (⟨"AppendStore$Directory", "takeOut", "(I)V"⟩, 2), (⟨"AppendStore$Directory", "insert", "(ILAppendStore$Rec;)V"⟩, 2), (⟨"java/lang/Throwable", "fillInStackTrace", "(I)Ljava/lang/Throwable;"⟩, 6), (⟨"AppendStore", "checkOpen", "()V"⟩, 5), (⟨"AppendStore", "append", "(JJI)V"⟩, 5), (⟨"AppendStore$Merger", "outputFor", "(I)LAppendStore$StoreFile;"⟩, 5), (⟨"AppendStore", "rowWith", "(IIZ)LAppendStore$Octets;"⟩, 5), (⟨"AppendStoreModel", "full", "(I)Z"⟩, 29), (⟨"AppendStoreModel", "append", "(JIJI)V"⟩, 29), (⟨"AppendStoreModel", "clearRow", "(I)V"⟩, 29)]
theorem lw_r1 : ∀ q ∈ lw_privs_1, lw_okq q := List.forall_mem_cons.mpr ⟨lw_p0, List.forall_mem_cons.mpr ⟨lw_p1, List.forall_mem_cons.mpr ⟨lw_p2, List.forall_mem_cons.mpr ⟨lw_p3, List.forall_mem_cons.mpr ⟨lw_p4, List.forall_mem_cons.mpr ⟨lw_p5, List.forall_mem_cons.mpr ⟨lw_p6, List.forall_mem_cons.mpr ⟨lw_p7, List.forall_mem_cons.mpr ⟨lw_p8, List.forall_mem_cons.mpr ⟨lw_p9, List.forall_mem_cons.mpr ⟨lw_p10, List.forall_mem_cons.mpr ⟨lw_p11, List.forall_mem_cons.mpr ⟨lw_p12, List.forall_mem_cons.mpr ⟨lw_p13, List.forall_mem_cons.mpr ⟨lw_p14, List.forall_mem_cons.mpr ⟨lw_p15, fun _ h => absurd h List.not_mem_nil⟩⟩⟩⟩⟩⟩⟩⟩⟩⟩⟩⟩⟩⟩⟩⟩
theorem lw_p16 : lw_okq (⟨"AppendStoreModel", "note", "(IIII)V"⟩, 29) := ⟨⟨by decide +kernel, by decide +kernel⟩, List.mem_of_getElem? (i := 728) (by decide +kernel), List.mem_of_getElem? (i := 851) (by decide +kernel), List.mem_of_getElem? (i := 852) (by decide +kernel)⟩
theorem lw_p17 : lw_okq (⟨"AppendStoreModel", "putNumber", "(IJI)V"⟩, 29) := ⟨⟨by decide +kernel, by decide +kernel⟩, List.mem_of_getElem? (i := 728) (by decide +kernel), List.mem_of_getElem? (i := 855) (by decide +kernel), List.mem_of_getElem? (i := 856) (by decide +kernel)⟩
theorem lw_p18 : lw_okq (⟨"AppendStoreModel", "putByte", "(II)V"⟩, 29) := ⟨⟨by decide +kernel, by decide +kernel⟩, List.mem_of_getElem? (i := 728) (by decide +kernel), List.mem_of_getElem? (i := 860) (by decide +kernel), List.mem_of_getElem? (i := 861) (by decide +kernel)⟩
theorem lw_p19 : lw_okq (⟨"AppendStoreModel", "set", "(JIII)V"⟩, 29) := ⟨⟨by decide +kernel, by decide +kernel⟩, List.mem_of_getElem? (i := 728) (by decide +kernel), List.mem_of_getElem? (i := 877) (by decide +kernel), List.mem_of_getElem? (i := 878) (by decide +kernel)⟩
theorem lw_p20 : lw_okq (⟨"AppendStoreModel", "find", "(JI)I"⟩, 29) := ⟨⟨by decide +kernel, by decide +kernel⟩, List.mem_of_getElem? (i := 728) (by decide +kernel), List.mem_of_getElem? (i := 881) (by decide +kernel), List.mem_of_getElem? (i := 882) (by decide +kernel)⟩
theorem lw_p21 : lw_okq (⟨"AppendStoreModel", "unset", "(JI)V"⟩, 29) := ⟨⟨by decide +kernel, by decide +kernel⟩, List.mem_of_getElem? (i := 728) (by decide +kernel), List.mem_of_getElem? (i := 889) (by decide +kernel), List.mem_of_getElem? (i := 890) (by decide +kernel)⟩
theorem lw_p22 : lw_okq (⟨"AppendStoreModel", "fail", "(I)I"⟩, 29) := ⟨⟨by decide +kernel, by decide +kernel⟩, List.mem_of_getElem? (i := 728) (by decide +kernel), List.mem_of_getElem? (i := 897) (by decide +kernel), List.mem_of_getElem? (i := 898) (by decide +kernel)⟩
theorem lw_p23 : lw_okq (⟨"AppendStoreModel", "rowOf", "(I)I"⟩, 29) := ⟨⟨by decide +kernel, by decide +kernel⟩, List.mem_of_getElem? (i := 728) (by decide +kernel), List.mem_of_getElem? (i := 901) (by decide +kernel), List.mem_of_getElem? (i := 902) (by decide +kernel)⟩
theorem lw_p24 : lw_okq (⟨"AppendStoreModel", "length", "(II)I"⟩, 29) := ⟨⟨by decide +kernel, by decide +kernel⟩, List.mem_of_getElem? (i := 728) (by decide +kernel), List.mem_of_getElem? (i := 905) (by decide +kernel), List.mem_of_getElem? (i := 906) (by decide +kernel)⟩
theorem lw_p25 : lw_okq (⟨"AppendStoreModel", "ordered", "(I)I"⟩, 29) := ⟨⟨by decide +kernel, by decide +kernel⟩, List.mem_of_getElem? (i := 728) (by decide +kernel), List.mem_of_getElem? (i := 921) (by decide +kernel), List.mem_of_getElem? (i := 922) (by decide +kernel)⟩
theorem lw_p26 : lw_okq (⟨"AppendStoreModel", "comesBefore", "(II)Z"⟩, 29) := ⟨⟨by decide +kernel, by decide +kernel⟩, List.mem_of_getElem? (i := 728) (by decide +kernel), List.mem_of_getElem? (i := 925) (by decide +kernel), List.mem_of_getElem? (i := 926) (by decide +kernel)⟩
theorem lw_p27 : lw_okq (⟨"AppendStoreModel", "letter", "(II)I"⟩, 29) := ⟨⟨by decide +kernel, by decide +kernel⟩, List.mem_of_getElem? (i := 728) (by decide +kernel), List.mem_of_getElem? (i := 929) (by decide +kernel), List.mem_of_getElem? (i := 930) (by decide +kernel)⟩
theorem lw_p28 : lw_okq (⟨"AppendStoreModel", "tells", "(I)Z"⟩, 29) := ⟨⟨by decide +kernel, by decide +kernel⟩, List.mem_of_getElem? (i := 728) (by decide +kernel), List.mem_of_getElem? (i := 945) (by decide +kernel), List.mem_of_getElem? (i := 946) (by decide +kernel)⟩
theorem lw_p29 : lw_okq (⟨"AppendStoreModel", "openHint", "(I)V"⟩, 29) := ⟨⟨by decide +kernel, by decide +kernel⟩, List.mem_of_getElem? (i := 728) (by decide +kernel), List.mem_of_getElem? (i := 949) (by decide +kernel), List.mem_of_getElem? (i := 950) (by decide +kernel)⟩
theorem lw_p30 : lw_okq (⟨"AppendStoreModel", "openRecords", "(I)V"⟩, 29) := ⟨⟨by decide +kernel, by decide +kernel⟩, List.mem_of_getElem? (i := 728) (by decide +kernel), List.mem_of_getElem? (i := 953) (by decide +kernel), List.mem_of_getElem? (i := 954) (by decide +kernel)⟩
theorem lw_p31 : lw_okq (⟨"AppendStoreModel", "isRecord", "(II)Z"⟩, 29) := ⟨⟨by decide +kernel, by decide +kernel⟩, List.mem_of_getElem? (i := 728) (by decide +kernel), List.mem_of_getElem? (i := 957) (by decide +kernel), List.mem_of_getElem? (i := 958) (by decide +kernel)⟩
def lw_privs_2 : List (MethodName × Nat) := [(⟨"AppendStoreModel", "note", "(IIII)V"⟩, 29), (⟨"AppendStoreModel", "putNumber", "(IJI)V"⟩, 29), (⟨"AppendStoreModel", "putByte", "(II)V"⟩, 29), (⟨"AppendStoreModel", "set", "(JIII)V"⟩, 29), (⟨"AppendStoreModel", "find", "(JI)I"⟩, 29), (⟨"AppendStoreModel", "unset", "(JI)V"⟩, 29), (⟨"AppendStoreModel", "fail", "(I)I"⟩, 29), (⟨"AppendStoreModel", "rowOf", "(I)I"⟩, 29), (⟨"AppendStoreModel", "length", "(II)I"⟩, 29), (⟨"AppendStoreModel", "ordered", "(I)I"⟩, 29), (⟨"AppendStoreModel", "comesBefore", "(II)Z"⟩, 29), (⟨"AppendStoreModel", "letter", "(II)I"⟩, 29), (⟨"AppendStoreModel", "tells", "(I)Z"⟩, 29), (⟨"AppendStoreModel", "openHint", "(I)V"⟩, 29), (⟨"AppendStoreModel", "openRecords", "(I)V"⟩, 29), (⟨"AppendStoreModel", "isRecord", "(II)Z"⟩, 29)]
theorem lw_r2 : ∀ q ∈ lw_privs_2, lw_okq q := List.forall_mem_cons.mpr ⟨lw_p16, List.forall_mem_cons.mpr ⟨lw_p17, List.forall_mem_cons.mpr ⟨lw_p18, List.forall_mem_cons.mpr ⟨lw_p19, List.forall_mem_cons.mpr ⟨lw_p20, List.forall_mem_cons.mpr ⟨lw_p21, List.forall_mem_cons.mpr ⟨lw_p22, List.forall_mem_cons.mpr ⟨lw_p23, List.forall_mem_cons.mpr ⟨lw_p24, List.forall_mem_cons.mpr ⟨lw_p25, List.forall_mem_cons.mpr ⟨lw_p26, List.forall_mem_cons.mpr ⟨lw_p27, List.forall_mem_cons.mpr ⟨lw_p28, List.forall_mem_cons.mpr ⟨lw_p29, List.forall_mem_cons.mpr ⟨lw_p30, List.forall_mem_cons.mpr ⟨lw_p31, fun _ h => absurd h List.not_mem_nil⟩⟩⟩⟩⟩⟩⟩⟩⟩⟩⟩⟩⟩⟩⟩⟩
theorem lw_p32 : lw_okq (⟨"AppendStoreModel", "skip", "()V"⟩, 29) := ⟨⟨by decide +kernel, by decide +kernel⟩, List.mem_of_getElem? (i := 728) (by decide +kernel), List.mem_of_getElem? (i := 965) (by decide +kernel), List.mem_of_getElem? (i := 966) (by decide +kernel)⟩
theorem lw_p33 : lw_okq (⟨"AppendStoreModel", "comeToNext", "()V"⟩, 29) := ⟨⟨by decide +kernel, by decide +kernel⟩, List.mem_of_getElem? (i := 728) (by decide +kernel), List.mem_of_getElem? (i := 969) (by decide +kernel), List.mem_of_getElem? (i := 970) (by decide +kernel)⟩
theorem lw_p34 : lw_okq (⟨"AppendStoreModel", "live", "(II)I"⟩, 29) := ⟨⟨by decide +kernel, by decide +kernel⟩, List.mem_of_getElem? (i := 728) (by decide +kernel), List.mem_of_getElem? (i := 973) (by decide +kernel), List.mem_of_getElem? (i := 974) (by decide +kernel)⟩
theorem lw_p35 : lw_okq (⟨"AppendStoreModel", "publish", "()V"⟩, 29) := ⟨⟨by decide +kernel, by decide +kernel⟩, List.mem_of_getElem? (i := 728) (by decide +kernel), List.mem_of_getElem? (i := 977) (by decide +kernel), List.mem_of_getElem? (i := 978) (by decide +kernel)⟩
theorem lw_p36 : lw_okq (⟨"AppendStoreModel", "makeHint", "(I)V"⟩, 29) := ⟨⟨by decide +kernel, by decide +kernel⟩, List.mem_of_getElem? (i := 728) (by decide +kernel), List.mem_of_getElem? (i := 982) (by decide +kernel), List.mem_of_getElem? (i := 983) (by decide +kernel)⟩
theorem lw_p37 : lw_okq (⟨"AppendStoreModel", "copyRow", "(II)V"⟩, 29) := ⟨⟨by decide +kernel, by decide +kernel⟩, List.mem_of_getElem? (i := 728) (by decide +kernel), List.mem_of_getElem? (i := 986) (by decide +kernel), List.mem_of_getElem? (i := 987) (by decide +kernel)⟩
theorem lw_p38 : lw_okq (⟨"AppendStoreModel", "liveIn", "(I)I"⟩, 29) := ⟨⟨by decide +kernel, by decide +kernel⟩, List.mem_of_getElem? (i := 728) (by decide +kernel), List.mem_of_getElem? (i := 998) (by decide +kernel), List.mem_of_getElem? (i := 999) (by decide +kernel)⟩
theorem lw_p39 : lw_okq (⟨"AppendStoreModel", "isByte", "(IIZ)Z"⟩, 29) := ⟨⟨by decide +kernel, by decide +kernel⟩, List.mem_of_getElem? (i := 728) (by decide +kernel), List.mem_of_getElem? (i := 1006) (by decide +kernel), List.mem_of_getElem? (i := 1007) (by decide +kernel)⟩
def lw_privs_3 : List (MethodName × Nat) := [(⟨"AppendStoreModel", "skip", "()V"⟩, 29), (⟨"AppendStoreModel", "comeToNext", "()V"⟩, 29), (⟨"AppendStoreModel", "live", "(II)I"⟩, 29), (⟨"AppendStoreModel", "publish", "()V"⟩, 29), (⟨"AppendStoreModel", "makeHint", "(I)V"⟩, 29), (⟨"AppendStoreModel", "copyRow", "(II)V"⟩, 29), (⟨"AppendStoreModel", "liveIn", "(I)I"⟩, 29), (⟨"AppendStoreModel", "isByte", "(IIZ)Z"⟩, 29)]
theorem lw_r3 : ∀ q ∈ lw_privs_3, lw_okq q := List.forall_mem_cons.mpr ⟨lw_p32, List.forall_mem_cons.mpr ⟨lw_p33, List.forall_mem_cons.mpr ⟨lw_p34, List.forall_mem_cons.mpr ⟨lw_p35, List.forall_mem_cons.mpr ⟨lw_p36, List.forall_mem_cons.mpr ⟨lw_p37, List.forall_mem_cons.mpr ⟨lw_p38, List.forall_mem_cons.mpr ⟨lw_p39, fun _ h => absurd h List.not_mem_nil⟩⟩⟩⟩⟩⟩⟩⟩
def lw_privs : List (MethodName × Nat) := lw_privs_1 ++ (lw_privs_2 ++ (lw_privs_3))
def lw_tbl : List Cond := k2_sels lw_privs ++ tables_1
theorem lw_privs_ok : ∀ q ∈ lw_privs, lw_okq q := by
  show ∀ q ∈ lw_privs_1 ++ (lw_privs_2 ++ (lw_privs_3)), lw_okq q
  exact List.forall_mem_append.mpr ⟨lw_r1, List.forall_mem_append.mpr ⟨lw_r2, lw_r3⟩⟩
end
section
def aR_A : String := "AppendStore"
def aR_D : String := "AppendStore$Directory"
def aR_G : String := "AppendStore$Merger"
def aR_O : String := "AppendStore$Octets"
def aR_R : String := "AppendStore$Rec"
def aR_S : String := "AppendStore$Shelf"
def aR_F : String := "AppendStore$StoreFile"
def aR_M : String := "AppendStoreModel"
def aR_K : String := "AppendStore$Key"
def aR_Y : String := "AppendStore$Layout"
def aR_L : String := "AppendStoreLaw"
def aT_A : u_T := fun k => match k with
  | 0 => ("AppendStore", "shelf", "LAppendStore$Shelf;", true)
  | 1 => ("AppendStore", "directory", "LAppendStore$Directory;", true)
  | 2 => ("AppendStore", "merger", "LAppendStore$Merger;", true)
  | 3 => ("AppendStore", "changes", "I", false)
  | _ => ("AppendStore", "closed", "Z", false)
def aY_A : Nat → FieldType := fun k => match k with
  | 0 => .object "AppendStore$Shelf"
  | 1 => .object "AppendStore$Directory"
  | 2 => .object "AppendStore$Merger"
  | 3 => .int
  | _ => .boolean
theorem aN_A : ∀ a, a < 5 → ∀ b, b < 5 → a ≠ b → (aT_A a).2.1 ≠ (aT_A b).2.1 := by decide +kernel
theorem aY_A_ok : ∀ k, k < 5 → parseFieldDescriptor (aT_A k).2.2.1 = some (aY_A k) := by decide +kernel
def aT_D : u_T := fun k => match k with
  | 0 => ("AppendStore$Directory", "rows", "[LAppendStore$Rec;", true)
  | _ => ("AppendStore$Directory", "count", "I", false)
def aY_D : Nat → FieldType := fun k => match k with
  | 0 => .array (.object "AppendStore$Rec")
  | _ => .int
theorem aN_D : ∀ a, a < 2 → ∀ b, b < 2 → a ≠ b → (aT_D a).2.1 ≠ (aT_D b).2.1 := by decide +kernel
theorem aY_D_ok : ∀ k, k < 2 → parseFieldDescriptor (aT_D k).2.2.1 = some (aY_D k) := by decide +kernel
def aT_G : u_T := fun k => match k with
  | 0 => ("AppendStore$Merger", "outputs", "[LAppendStore$StoreFile;", true)
  | 1 => ("AppendStore$Merger", "outputCount", "I", false)
  | 2 => ("AppendStore$Merger", "taken", "I", false)
  | 3 => ("AppendStore$Merger", "atFile", "I", false)
  | _ => ("AppendStore$Merger", "atRecord", "I", false)
def aY_G : Nat → FieldType := fun k => match k with
  | 0 => .array (.object "AppendStore$StoreFile")
  | 1 => .int
  | 2 => .int
  | 3 => .int
  | _ => .int
theorem aN_G : ∀ a, a < 5 → ∀ b, b < 5 → a ≠ b → (aT_G a).2.1 ≠ (aT_G b).2.1 := by decide +kernel
theorem aY_G_ok : ∀ k, k < 5 → parseFieldDescriptor (aT_G k).2.2.1 = some (aY_G k) := by decide +kernel
def aT_O : u_T := fun k => match k with
  | 0 => ("AppendStore$Octets", "cells", "[B", true)
  | _ => ("AppendStore$Octets", "size", "I", false)
def aY_O : Nat → FieldType := fun k => match k with
  | 0 => .array .byte
  | _ => .int
theorem aN_O : ∀ a, a < 2 → ∀ b, b < 2 → a ≠ b → (aT_O a).2.1 ≠ (aT_O b).2.1 := by decide +kernel
theorem aY_O_ok : ∀ k, k < 2 → parseFieldDescriptor (aT_O k).2.2.1 = some (aY_O k) := by decide +kernel
def aT_R : u_T := fun k => match k with
  | 0 => ("AppendStore$Rec", "home", "LAppendStore$StoreFile;", false)
  | 1 => ("AppendStore$Rec", "place", "I", false)
  | 2 => ("AppendStore$Rec", "rank", "J", false)
  | 3 => ("AppendStore$Rec", "valueSize", "I", false)
  | _ => ("AppendStore$Rec", "source", "LAppendStore$Rec;", false)
def aY_R : Nat → FieldType := fun k => match k with
  | 0 => .object "AppendStore$StoreFile"
  | 1 => .int
  | 2 => .long
  | 3 => .int
  | _ => .object "AppendStore$Rec"
theorem aN_R : ∀ a, a < 5 → ∀ b, b < 5 → a ≠ b → (aT_R a).2.1 ≠ (aT_R b).2.1 := by decide +kernel
theorem aY_R_ok : ∀ k, k < 5 → parseFieldDescriptor (aT_R k).2.2.1 = some (aY_R k) := by decide +kernel
def aT_S : u_T := fun k => match k with
  | 0 => ("AppendStore$Shelf", "slots", "[LAppendStore$StoreFile;", true)
  | 1 => ("AppendStore$Shelf", "count", "I", false)
  | 2 => ("AppendStore$Shelf", "active", "LAppendStore$StoreFile;", false)
  | _ => ("AppendStore$Shelf", "lastNumber", "I", false)
def aY_S : Nat → FieldType := fun k => match k with
  | 0 => .array (.object "AppendStore$StoreFile")
  | 1 => .int
  | 2 => .object "AppendStore$StoreFile"
  | _ => .int
theorem aN_S : ∀ a, a < 4 → ∀ b, b < 4 → a ≠ b → (aT_S a).2.1 ≠ (aT_S b).2.1 := by decide +kernel
theorem aY_S_ok : ∀ k, k < 4 → parseFieldDescriptor (aT_S k).2.2.1 = some (aY_S k) := by decide +kernel
def aT_F : u_T := fun k => match k with
  | 0 => ("AppendStore$StoreFile", "bytes", "LAppendStore$Octets;", true)
  | 1 => ("AppendStore$StoreFile", "hint", "LAppendStore$Octets;", true)
  | 2 => ("AppendStore$StoreFile", "records", "[LAppendStore$Rec;", true)
  | 3 => ("AppendStore$StoreFile", "recordCount", "I", false)
  | 4 => ("AppendStore$StoreFile", "number", "I", false)
  | _ => ("AppendStore$StoreFile", "synced", "I", false)
def aY_F : Nat → FieldType := fun k => match k with
  | 0 => .object "AppendStore$Octets"
  | 1 => .object "AppendStore$Octets"
  | 2 => .array (.object "AppendStore$Rec")
  | 3 => .int
  | 4 => .int
  | _ => .int
theorem aN_F : ∀ a, a < 6 → ∀ b, b < 6 → a ≠ b → (aT_F a).2.1 ≠ (aT_F b).2.1 := by decide +kernel
theorem aY_F_ok : ∀ k, k < 6 → parseFieldDescriptor (aT_F k).2.2.1 = some (aY_F k) := by decide +kernel
def aT_M : u_T := fun k => match k with
  | 0 => ("AppendStoreModel", "thrown", "I", false)
  | 1 => ("AppendStoreModel", "files", "I", false)
  | 2 => ("AppendStoreModel", "number", "[I", true)
  | 3 => ("AppendStoreModel", "size", "[I", true)
  | 4 => ("AppendStoreModel", "synced", "[I", true)
  | 5 => ("AppendStoreModel", "bytes", "[I", true)
  | 6 => ("AppendStoreModel", "hinted", "[Z", true)
  | 7 => ("AppendStoreModel", "hintSize", "[I", true)
  | 8 => ("AppendStoreModel", "hints", "[I", true)
  | 9 => ("AppendStoreModel", "count", "[I", true)
  | 10 => ("AppendStoreModel", "place", "[I", true)
  | 11 => ("AppendStoreModel", "keySize", "[I", true)
  | 12 => ("AppendStoreModel", "valueSize", "[I", true)
  | 13 => ("AppendStoreModel", "fromFile", "[I", true)
  | 14 => ("AppendStoreModel", "fromRecord", "[I", true)
  | 15 => ("AppendStoreModel", "entries", "I", false)
  | 16 => ("AppendStoreModel", "key", "[J", true)
  | 17 => ("AppendStoreModel", "sizeOf", "[I", true)
  | 18 => ("AppendStoreModel", "fileOf", "[I", true)
  | 19 => ("AppendStoreModel", "recordOf", "[I", true)
  | 20 => ("AppendStoreModel", "hasActive", "Z", false)
  | 21 => ("AppendStoreModel", "closed", "Z", false)
  | 22 => ("AppendStoreModel", "last", "I", false)
  | 23 => ("AppendStoreModel", "time", "I", false)
  | 24 => ("AppendStoreModel", "merging", "Z", false)
  | 25 => ("AppendStoreModel", "taken", "I", false)
  | 26 => ("AppendStoreModel", "atFile", "I", false)
  | 27 => ("AppendStoreModel", "atRecord", "I", false)
  | _ => ("AppendStoreModel", "made", "I", false)
def aY_M : Nat → FieldType := fun k => match k with
  | 0 => .int
  | 1 => .int
  | 2 => .array .int
  | 3 => .array .int
  | 4 => .array .int
  | 5 => .array .int
  | 6 => .array .boolean
  | 7 => .array .int
  | 8 => .array .int
  | 9 => .array .int
  | 10 => .array .int
  | 11 => .array .int
  | 12 => .array .int
  | 13 => .array .int
  | 14 => .array .int
  | 15 => .int
  | 16 => .array .long
  | 17 => .array .int
  | 18 => .array .int
  | 19 => .array .int
  | 20 => .boolean
  | 21 => .boolean
  | 22 => .int
  | 23 => .int
  | 24 => .boolean
  | 25 => .int
  | 26 => .int
  | 27 => .int
  | _ => .int
theorem aN_M : ∀ a, a < 29 → ∀ b, b < 29 → a ≠ b → (aT_M a).2.1 ≠ (aT_M b).2.1 := by decide +kernel
theorem aY_M_ok : ∀ k, k < 29 → parseFieldDescriptor (aT_M k).2.2.1 = some (aY_M k) := by decide +kernel
/-- the classes whose objects the worlds hold, by number -/
abbrev aCl : List vw_C := [(aR_A, aT_A, 5), (aR_D, aT_D, 2), (aR_G, aT_G, 5), (aR_O, aT_O, 2), (aR_R, aT_R, 5), (aR_S, aT_S, 4), (aR_F, aT_F, 6), (aR_M, aT_M, 29)]
/-- a method: its name, its code, its locals, what it answers -/
abbrev aj_M : Type := MethodName × ByteArray × Nat × Option FieldType
abbrev b_A_init : ByteArray := prog_1_method_1_code
def y_A_init : MethodName := ⟨aR_A, "<init>", "()V"⟩
abbrev m_A_init : aj_M := (y_A_init, b_A_init, 1, none)
abbrev b_A_put : ByteArray := prog_1_method_2_code
def y_A_put : MethodName := ⟨aR_A, "put", "(JIJI)V"⟩
abbrev m_A_put : aj_M := (y_A_put, b_A_put, 7, none)
abbrev b_A_delete : ByteArray := prog_1_method_3_code
def y_A_delete : MethodName := ⟨aR_A, "delete", "(JI)Z"⟩
abbrev m_A_delete : aj_M := (y_A_delete, b_A_delete, 6, (some .boolean))
abbrev b_A_get : ByteArray := prog_1_method_4_code
def y_A_get : MethodName := ⟨aR_A, "get", "(JI)J"⟩
abbrev m_A_get : aj_M := (y_A_get, b_A_get, 5, (some .long))
abbrev b_A_keys : ByteArray := prog_1_method_5_code
def y_A_keys : MethodName := ⟨aR_A, "keys", "()I"⟩
abbrev m_A_keys : aj_M := (y_A_keys, b_A_keys, 1, (some .int))
abbrev b_A_key : ByteArray := prog_1_method_6_code
def y_A_key : MethodName := ⟨aR_A, "key", "(II)J"⟩
abbrev m_A_key : aj_M := (y_A_key, b_A_key, 4, (some .long))
abbrev b_A_sync : ByteArray := prog_1_method_7_code
def y_A_sync : MethodName := ⟨aR_A, "sync", "()V"⟩
abbrev m_A_sync : aj_M := (y_A_sync, b_A_sync, 1, none)
abbrev b_A_lose : ByteArray := prog_1_method_8_code
def y_A_lose : MethodName := ⟨aR_A, "lose", "(I)V"⟩
abbrev m_A_lose : aj_M := (y_A_lose, b_A_lose, 2, none)
abbrev b_A_open : ByteArray := prog_1_method_9_code
def y_A_open : MethodName := ⟨aR_A, "open", "(Z)I"⟩
abbrev m_A_open : aj_M := (y_A_open, b_A_open, 4, (some .int))
abbrev b_A_merge : ByteArray := prog_1_method_10_code
def y_A_merge : MethodName := ⟨aR_A, "merge", "(I)Z"⟩
abbrev m_A_merge : aj_M := (y_A_merge, b_A_merge, 2, (some .boolean))
abbrev b_A_files : ByteArray := prog_1_method_11_code
def y_A_files : MethodName := ⟨aR_A, "files", "()I"⟩
abbrev m_A_files : aj_M := (y_A_files, b_A_files, 1, (some .int))
abbrev b_A_file : ByteArray := prog_1_method_12_code
def y_A_file : MethodName := ⟨aR_A, "file", "(II)I"⟩
abbrev m_A_file : aj_M := (y_A_file, b_A_file, 4, (some .int))
abbrev b_A_octet : ByteArray := prog_1_method_13_code
def y_A_octet : MethodName := ⟨aR_A, "octet", "(IIZ)I"⟩
abbrev m_A_octet : aj_M := (y_A_octet, b_A_octet, 4, (some .int))
abbrev b_A_spoil : ByteArray := prog_1_method_14_code
def y_A_spoil : MethodName := ⟨aR_A, "spoil", "(IIZI)V"⟩
abbrev m_A_spoil : aj_M := (y_A_spoil, b_A_spoil, 6, none)
abbrev b_A_checkOpen : ByteArray := prog_1_method_15_code
def y_A_checkOpen : MethodName := ⟨aR_A, "checkOpen", "()V"⟩
abbrev m_A_checkOpen : aj_M := (y_A_checkOpen, b_A_checkOpen, 1, none)
abbrev b_A_checkRange : ByteArray := prog_1_method_16_code
def y_A_checkRange : MethodName := ⟨aR_A, "checkRange", "(III)V"⟩
abbrev m_A_checkRange : aj_M := (y_A_checkRange, b_A_checkRange, 3, none)
abbrev b_A_rowWith : ByteArray := prog_1_method_17_code
def y_A_rowWith : MethodName := ⟨aR_A, "rowWith", "(IIZ)LAppendStore$Octets;"⟩
abbrev m_A_rowWith : aj_M := (y_A_rowWith, b_A_rowWith, 6, (some (.object "AppendStore$Octets")))
abbrev b_A_append : ByteArray := prog_1_method_18_code
def y_A_append : MethodName := ⟨aR_A, "append", "(JJI)V"⟩
abbrev m_A_append : aj_M := (y_A_append, b_A_append, 7, none)
abbrev b_A_enter : ByteArray := prog_1_method_19_code
def y_A_enter : MethodName := ⟨aR_A, "enter", "(LAppendStore$StoreFile;)V"⟩
abbrev m_A_enter : aj_M := (y_A_enter, b_A_enter, 4, none)
abbrev b_M_init : ByteArray := prog_11_method_1_code
def y_M_init : MethodName := ⟨aR_M, "<init>", "()V"⟩
abbrev m_M_init : aj_M := (y_M_init, b_M_init, 1, none)
abbrev b_M_thrown : ByteArray := prog_11_method_2_code
def y_M_thrown : MethodName := ⟨aR_M, "thrown", "()I"⟩
abbrev m_M_thrown : aj_M := (y_M_thrown, b_M_thrown, 1, (some .int))
abbrev b_M_in : ByteArray := prog_11_method_3_code
def y_M_in : MethodName := ⟨aR_M, "in", "(III)Z"⟩
abbrev m_M_in : aj_M := (y_M_in, b_M_in, 3, (some .boolean))
abbrev b_M_fail : ByteArray := prog_11_method_4_code
def y_M_fail : MethodName := ⟨aR_M, "fail", "(I)I"⟩
abbrev m_M_fail : aj_M := (y_M_fail, b_M_fail, 2, (some .int))
abbrev b_M_summed : ByteArray := prog_11_method_5_code
def y_M_summed : MethodName := ⟨aR_M, "summed", "(JI)J"⟩
abbrev m_M_summed : aj_M := (y_M_summed, b_M_summed, 6, (some .long))
abbrev b_M_sumOf : ByteArray := prog_11_method_6_code
def y_M_sumOf : MethodName := ⟨aR_M, "sumOf", "([III)J"⟩
abbrev m_M_sumOf : aj_M := (y_M_sumOf, b_M_sumOf, 6, (some .long))
abbrev b_M_numberIn : ByteArray := prog_11_method_7_code
def y_M_numberIn : MethodName := ⟨aR_M, "numberIn", "([III)J"⟩
abbrev m_M_numberIn : aj_M := (y_M_numberIn, b_M_numberIn, 6, (some .long))
abbrev b_M_cut : ByteArray := prog_11_method_8_code
def y_M_cut : MethodName := ⟨aR_M, "cut", "(JI)J"⟩
abbrev m_M_cut : aj_M := (y_M_cut, b_M_cut, 6, (some .long))
abbrev b_M_lengthOf : ByteArray := prog_11_method_9_code
def y_M_lengthOf : MethodName := ⟨aR_M, "lengthOf", "(II)I"⟩
abbrev m_M_lengthOf : aj_M := (y_M_lengthOf, b_M_lengthOf, 2, (some .int))
abbrev b_M_length : ByteArray := prog_11_method_10_code
def y_M_length : MethodName := ⟨aR_M, "length", "(II)I"⟩
abbrev m_M_length : aj_M := (y_M_length, b_M_length, 3, (some .int))
abbrev b_M_note : ByteArray := prog_11_method_11_code
def y_M_note : MethodName := ⟨aR_M, "note", "(IIII)V"⟩
abbrev m_M_note : aj_M := (y_M_note, b_M_note, 6, none)
abbrev b_M_clearRow : ByteArray := prog_11_method_12_code
def y_M_clearRow : MethodName := ⟨aR_M, "clearRow", "(I)V"⟩
abbrev m_M_clearRow : aj_M := (y_M_clearRow, b_M_clearRow, 2, none)
abbrev b_M_copyRow : ByteArray := prog_11_method_13_code
def y_M_copyRow : MethodName := ⟨aR_M, "copyRow", "(II)V"⟩
abbrev m_M_copyRow : aj_M := (y_M_copyRow, b_M_copyRow, 4, none)
abbrev b_M_find : ByteArray := prog_11_method_14_code
def y_M_find : MethodName := ⟨aR_M, "find", "(JI)I"⟩
abbrev m_M_find : aj_M := (y_M_find, b_M_find, 5, (some .int))
abbrev b_M_set : ByteArray := prog_11_method_15_code
def y_M_set : MethodName := ⟨aR_M, "set", "(JIII)V"⟩
abbrev m_M_set : aj_M := (y_M_set, b_M_set, 7, none)
abbrev b_M_unset : ByteArray := prog_11_method_16_code
def y_M_unset : MethodName := ⟨aR_M, "unset", "(JI)V"⟩
abbrev m_M_unset : aj_M := (y_M_unset, b_M_unset, 5, none)
abbrev b_M_live : ByteArray := prog_11_method_17_code
def y_M_live : MethodName := ⟨aR_M, "live", "(II)I"⟩
abbrev m_M_live : aj_M := (y_M_live, b_M_live, 4, (some .int))
abbrev b_M_rowOf : ByteArray := prog_11_method_18_code
def y_M_rowOf : MethodName := ⟨aR_M, "rowOf", "(I)I"⟩
abbrev m_M_rowOf : aj_M := (y_M_rowOf, b_M_rowOf, 3, (some .int))
abbrev b_M_letter : ByteArray := prog_11_method_19_code
def y_M_letter : MethodName := ⟨aR_M, "letter", "(II)I"⟩
abbrev m_M_letter : aj_M := (y_M_letter, b_M_letter, 3, (some .int))
abbrev b_M_ordered : ByteArray := prog_11_method_20_code
def y_M_ordered : MethodName := ⟨aR_M, "ordered", "(I)I"⟩
abbrev m_M_ordered : aj_M := (y_M_ordered, b_M_ordered, 5, (some .int))
abbrev b_M_comesBefore : ByteArray := prog_11_method_21_code
def y_M_comesBefore : MethodName := ⟨aR_M, "comesBefore", "(II)Z"⟩
abbrev m_M_comesBefore : aj_M := (y_M_comesBefore, b_M_comesBefore, 4, (some .boolean))
abbrev b_M_full : ByteArray := prog_11_method_22_code
def y_M_full : MethodName := ⟨aR_M, "full", "(I)Z"⟩
abbrev m_M_full : aj_M := (y_M_full, b_M_full, 2, (some .boolean))
abbrev b_M_putByte : ByteArray := prog_11_method_23_code
def y_M_putByte : MethodName := ⟨aR_M, "putByte", "(II)V"⟩
abbrev m_M_putByte : aj_M := (y_M_putByte, b_M_putByte, 3, none)
abbrev b_M_putNumber : ByteArray := prog_11_method_24_code
def y_M_putNumber : MethodName := ⟨aR_M, "putNumber", "(IJI)V"⟩
abbrev m_M_putNumber : aj_M := (y_M_putNumber, b_M_putNumber, 6, none)
abbrev b_M_append : ByteArray := prog_11_method_25_code
def y_M_append : MethodName := ⟨aR_M, "append", "(JIJI)V"⟩
abbrev m_M_append : aj_M := (y_M_append, b_M_append, 13, none)
abbrev b_M_put : ByteArray := prog_11_method_26_code
def y_M_put : MethodName := ⟨aR_M, "put", "(JIJI)V"⟩
abbrev m_M_put : aj_M := (y_M_put, b_M_put, 7, none)
abbrev b_M_delete : ByteArray := prog_11_method_27_code
def y_M_delete : MethodName := ⟨aR_M, "delete", "(JI)Z"⟩
abbrev m_M_delete : aj_M := (y_M_delete, b_M_delete, 4, (some .boolean))
abbrev b_M_get : ByteArray := prog_11_method_28_code
def y_M_get : MethodName := ⟨aR_M, "get", "(JI)J"⟩
abbrev m_M_get : aj_M := (y_M_get, b_M_get, 8, (some .long))
abbrev b_M_keys : ByteArray := prog_11_method_29_code
def y_M_keys : MethodName := ⟨aR_M, "keys", "()I"⟩
abbrev m_M_keys : aj_M := (y_M_keys, b_M_keys, 1, (some .int))
abbrev b_M_key : ByteArray := prog_11_method_30_code
def y_M_key : MethodName := ⟨aR_M, "key", "(II)J"⟩
abbrev m_M_key : aj_M := (y_M_key, b_M_key, 5, (some .long))
abbrev b_M_sync : ByteArray := prog_11_method_31_code
def y_M_sync : MethodName := ⟨aR_M, "sync", "()V"⟩
abbrev m_M_sync : aj_M := (y_M_sync, b_M_sync, 1, none)
abbrev b_M_lose : ByteArray := prog_11_method_32_code
def y_M_lose : MethodName := ⟨aR_M, "lose", "(I)V"⟩
abbrev m_M_lose : aj_M := (y_M_lose, b_M_lose, 4, none)
abbrev b_M_tells : ByteArray := prog_11_method_33_code
def y_M_tells : MethodName := ⟨aR_M, "tells", "(I)Z"⟩
abbrev m_M_tells : aj_M := (y_M_tells, b_M_tells, 8, (some .boolean))
abbrev b_M_isRecord : ByteArray := prog_11_method_34_code
def y_M_isRecord : MethodName := ⟨aR_M, "isRecord", "(II)Z"⟩
abbrev m_M_isRecord : aj_M := (y_M_isRecord, b_M_isRecord, 7, (some .boolean))
abbrev b_M_openRecords : ByteArray := prog_11_method_35_code
def y_M_openRecords : MethodName := ⟨aR_M, "openRecords", "(I)V"⟩
abbrev m_M_openRecords : aj_M := (y_M_openRecords, b_M_openRecords, 7, none)
abbrev b_M_openHint : ByteArray := prog_11_method_36_code
def y_M_openHint : MethodName := ⟨aR_M, "openHint", "(I)V"⟩
abbrev m_M_openHint : aj_M := (y_M_openHint, b_M_openHint, 5, none)
abbrev b_M_open : ByteArray := prog_11_method_37_code
def y_M_open : MethodName := ⟨aR_M, "open", "(Z)I"⟩
abbrev m_M_open : aj_M := (y_M_open, b_M_open, 3, (some .int))
abbrev b_M_skip : ByteArray := prog_11_method_38_code
def y_M_skip : MethodName := ⟨aR_M, "skip", "()V"⟩
abbrev m_M_skip : aj_M := (y_M_skip, b_M_skip, 1, none)
abbrev b_M_comeToNext : ByteArray := prog_11_method_39_code
def y_M_comeToNext : MethodName := ⟨aR_M, "comeToNext", "()V"⟩
abbrev m_M_comeToNext : aj_M := (y_M_comeToNext, b_M_comeToNext, 6, none)
abbrev b_M_makeHint : ByteArray := prog_11_method_40_code
def y_M_makeHint : MethodName := ⟨aR_M, "makeHint", "(I)V"⟩
abbrev m_M_makeHint : aj_M := (y_M_makeHint, b_M_makeHint, 7, none)
abbrev b_M_publish : ByteArray := prog_11_method_41_code
def y_M_publish : MethodName := ⟨aR_M, "publish", "()V"⟩
abbrev m_M_publish : aj_M := (y_M_publish, b_M_publish, 5, none)
abbrev b_M_merge : ByteArray := prog_11_method_42_code
def y_M_merge : MethodName := ⟨aR_M, "merge", "(I)Z"⟩
abbrev m_M_merge : aj_M := (y_M_merge, b_M_merge, 4, (some .boolean))
abbrev b_M_files : ByteArray := prog_11_method_43_code
def y_M_files : MethodName := ⟨aR_M, "files", "()I"⟩
abbrev m_M_files : aj_M := (y_M_files, b_M_files, 1, (some .int))
abbrev b_M_file : ByteArray := prog_11_method_44_code
def y_M_file : MethodName := ⟨aR_M, "file", "(II)I"⟩
abbrev m_M_file : aj_M := (y_M_file, b_M_file, 3, (some .int))
abbrev b_M_liveIn : ByteArray := prog_11_method_45_code
def y_M_liveIn : MethodName := ⟨aR_M, "liveIn", "(I)I"⟩
abbrev m_M_liveIn : aj_M := (y_M_liveIn, b_M_liveIn, 4, (some .int))
abbrev b_M_isByte : ByteArray := prog_11_method_46_code
def y_M_isByte : MethodName := ⟨aR_M, "isByte", "(IIZ)Z"⟩
abbrev m_M_isByte : aj_M := (y_M_isByte, b_M_isByte, 4, (some .boolean))
abbrev b_M_octet : ByteArray := prog_11_method_47_code
def y_M_octet : MethodName := ⟨aR_M, "octet", "(IIZ)I"⟩
abbrev m_M_octet : aj_M := (y_M_octet, b_M_octet, 4, (some .int))
abbrev b_M_spoil : ByteArray := prog_11_method_48_code
def y_M_spoil : MethodName := ⟨aR_M, "spoil", "(IIZI)V"⟩
abbrev m_M_spoil : aj_M := (y_M_spoil, b_M_spoil, 5, none)
abbrev b_D_init : ByteArray := prog_2_method_1_code
def y_D_init : MethodName := ⟨aR_D, "<init>", "()V"⟩
abbrev m_D_init : aj_M := (y_D_init, b_D_init, 1, none)
abbrev b_D_count : ByteArray := prog_2_method_2_code
def y_D_count : MethodName := ⟨aR_D, "count", "()I"⟩
abbrev m_D_count : aj_M := (y_D_count, b_D_count, 1, (some .int))
abbrev b_D_clear : ByteArray := prog_2_method_3_code
def y_D_clear : MethodName := ⟨aR_D, "clear", "()V"⟩
abbrev m_D_clear : aj_M := (y_D_clear, b_D_clear, 1, none)
abbrev b_D_at : ByteArray := prog_2_method_4_code
def y_D_at : MethodName := ⟨aR_D, "at", "(I)LAppendStore$Rec;"⟩
abbrev m_D_at : aj_M := (y_D_at, b_D_at, 2, (some (.object "AppendStore$Rec")))
abbrev b_D_find : ByteArray := prog_2_method_5_code
def y_D_find : MethodName := ⟨aR_D, "find", "(J)LAppendStore$Rec;"⟩
abbrev m_D_find : aj_M := (y_D_find, b_D_find, 4, (some (.object "AppendStore$Rec")))
abbrev b_D_has : ByteArray := prog_2_method_6_code
def y_D_has : MethodName := ⟨aR_D, "has", "(LAppendStore$Rec;)Z"⟩
abbrev m_D_has : aj_M := (y_D_has, b_D_has, 2, (some .boolean))
abbrev b_D_enter : ByteArray := prog_2_method_7_code
def y_D_enter : MethodName := ⟨aR_D, "enter", "(LAppendStore$Rec;)V"⟩
abbrev m_D_enter : aj_M := (y_D_enter, b_D_enter, 5, none)
abbrev b_D_replace : ByteArray := prog_2_method_8_code
def y_D_replace : MethodName := ⟨aR_D, "replace", "(LAppendStore$Rec;LAppendStore$Rec;)V"⟩
abbrev m_D_replace : aj_M := (y_D_replace, b_D_replace, 3, none)
abbrev b_D_firstFrom : ByteArray := prog_2_method_9_code
def y_D_firstFrom : MethodName := ⟨aR_D, "firstFrom", "(J)I"⟩
abbrev m_D_firstFrom : aj_M := (y_D_firstFrom, b_D_firstFrom, 4, (some .int))
abbrev b_D_insert : ByteArray := prog_2_method_10_code
def y_D_insert : MethodName := ⟨aR_D, "insert", "(ILAppendStore$Rec;)V"⟩
abbrev m_D_insert : aj_M := (y_D_insert, b_D_insert, 4, none)
abbrev b_D_takeOut : ByteArray := prog_2_method_11_code
def y_D_takeOut : MethodName := ⟨aR_D, "takeOut", "(I)V"⟩
abbrev m_D_takeOut : aj_M := (y_D_takeOut, b_D_takeOut, 3, none)
abbrev b_K_rank : ByteArray := prog_3_method_2_code
def y_K_rank : MethodName := ⟨aR_K, "rank", "(JI)J"⟩
abbrev m_K_rank : aj_M := (y_K_rank, b_K_rank, 5, (some .long))
abbrev b_K_size : ByteArray := prog_3_method_3_code
def y_K_size : MethodName := ⟨aR_K, "size", "(J)I"⟩
abbrev m_K_size : aj_M := (y_K_size, b_K_size, 2, (some .int))
abbrev b_K_number : ByteArray := prog_3_method_4_code
def y_K_number : MethodName := ⟨aR_K, "number", "(J)J"⟩
abbrev m_K_number : aj_M := (y_K_number, b_K_number, 2, (some .long))
abbrev b_K_missingBits : ByteArray := prog_3_method_5_code
def y_K_missingBits : MethodName := ⟨aR_K, "missingBits", "(I)I"⟩
abbrev m_K_missingBits : aj_M := (y_K_missingBits, b_K_missingBits, 1, (some .int))
abbrev b_Y_valueBytes : ByteArray := prog_4_method_2_code
def y_Y_valueBytes : MethodName := ⟨aR_Y, "valueBytes", "(I)I"⟩
abbrev m_Y_valueBytes : aj_M := (y_Y_valueBytes, b_Y_valueBytes, 1, (some .int))
abbrev b_Y_recordBytes : ByteArray := prog_4_method_3_code
def y_Y_recordBytes : MethodName := ⟨aR_Y, "recordBytes", "(II)I"⟩
abbrev m_Y_recordBytes : aj_M := (y_Y_recordBytes, b_Y_recordBytes, 2, (some .int))
abbrev b_Y_isKeySize : ByteArray := prog_4_method_4_code
def y_Y_isKeySize : MethodName := ⟨aR_Y, "isKeySize", "(I)Z"⟩
abbrev m_Y_isKeySize : aj_M := (y_Y_isKeySize, b_Y_isKeySize, 1, (some .boolean))
abbrev b_Y_isValueSize : ByteArray := prog_4_method_5_code
def y_Y_isValueSize : MethodName := ⟨aR_Y, "isValueSize", "(I)Z"⟩
abbrev m_Y_isValueSize : aj_M := (y_Y_isValueSize, b_Y_isValueSize, 1, (some .boolean))
abbrev b_G_init : ByteArray := prog_5_method_1_code
def y_G_init : MethodName := ⟨aR_G, "<init>", "()V"⟩
abbrev m_G_init : aj_M := (y_G_init, b_G_init, 2, none)
abbrev b_G_goesOn : ByteArray := prog_5_method_2_code
def y_G_goesOn : MethodName := ⟨aR_G, "goesOn", "()Z"⟩
abbrev m_G_goesOn : aj_M := (y_G_goesOn, b_G_goesOn, 1, (some .boolean))
abbrev b_G_begin : ByteArray := prog_5_method_3_code
def y_G_begin : MethodName := ⟨aR_G, "begin", "(I)V"⟩
abbrev m_G_begin : aj_M := (y_G_begin, b_G_begin, 2, none)
abbrev b_G_drop : ByteArray := prog_5_method_4_code
def y_G_drop : MethodName := ⟨aR_G, "drop", "()V"⟩
abbrev m_G_drop : aj_M := (y_G_drop, b_G_drop, 1, none)
abbrev b_G_advance : ByteArray := prog_5_method_5_code
def y_G_advance : MethodName := ⟨aR_G, "advance", "(ILAppendStore$Shelf;LAppendStore$Directory;)V"⟩
abbrev m_G_advance : aj_M := (y_G_advance, b_G_advance, 7, none)
abbrev b_G_cameToAll : ByteArray := prog_5_method_6_code
def y_G_cameToAll : MethodName := ⟨aR_G, "cameToAll", "(LAppendStore$Shelf;)Z"⟩
abbrev m_G_cameToAll : aj_M := (y_G_cameToAll, b_G_cameToAll, 3, (some .boolean))
abbrev b_G_publish : ByteArray := prog_5_method_7_code
def y_G_publish : MethodName := ⟨aR_G, "publish", "(LAppendStore$Shelf;LAppendStore$Directory;)V"⟩
abbrev m_G_publish : aj_M := (y_G_publish, b_G_publish, 6, none)
abbrev b_G_pointToCopies : ByteArray := prog_5_method_8_code
def y_G_pointToCopies : MethodName := ⟨aR_G, "pointToCopies", "(LAppendStore$StoreFile;LAppendStore$Directory;)V"⟩
abbrev m_G_pointToCopies : aj_M := (y_G_pointToCopies, b_G_pointToCopies, 4, none)
abbrev b_G_outputFor : ByteArray := prog_5_method_9_code
def y_G_outputFor : MethodName := ⟨aR_G, "outputFor", "(I)LAppendStore$StoreFile;"⟩
abbrev m_G_outputFor : aj_M := (y_G_outputFor, b_G_outputFor, 3, (some (.object "AppendStore$StoreFile")))
abbrev b_O_init : ByteArray := prog_6_method_1_code
def y_O_init : MethodName := ⟨aR_O, "<init>", "(I)V"⟩
abbrev m_O_init : aj_M := (y_O_init, b_O_init, 2, none)
abbrev b_O_size : ByteArray := prog_6_method_2_code
def y_O_size : MethodName := ⟨aR_O, "size", "()I"⟩
abbrev m_O_size : aj_M := (y_O_size, b_O_size, 1, (some .int))
abbrev b_O_has : ByteArray := prog_6_method_3_code
def y_O_has : MethodName := ⟨aR_O, "has", "(I)Z"⟩
abbrev m_O_has : aj_M := (y_O_has, b_O_has, 2, (some .boolean))
abbrev b_O_hasRoomFor : ByteArray := prog_6_method_4_code
def y_O_hasRoomFor : MethodName := ⟨aR_O, "hasRoomFor", "(I)Z"⟩
abbrev m_O_hasRoomFor : aj_M := (y_O_hasRoomFor, b_O_hasRoomFor, 2, (some .boolean))
abbrev b_O_at : ByteArray := prog_6_method_5_code
def y_O_at : MethodName := ⟨aR_O, "at", "(I)I"⟩
abbrev m_O_at : aj_M := (y_O_at, b_O_at, 2, (some .int))
abbrev b_O_set : ByteArray := prog_6_method_6_code
def y_O_set : MethodName := ⟨aR_O, "set", "(II)V"⟩
abbrev m_O_set : aj_M := (y_O_set, b_O_set, 3, none)
abbrev b_O_cutTo : ByteArray := prog_6_method_7_code
def y_O_cutTo : MethodName := ⟨aR_O, "cutTo", "(I)V"⟩
abbrev m_O_cutTo : aj_M := (y_O_cutTo, b_O_cutTo, 2, none)
abbrev b_O_addByte : ByteArray := prog_6_method_8_code
def y_O_addByte : MethodName := ⟨aR_O, "addByte", "(I)V"⟩
abbrev m_O_addByte : aj_M := (y_O_addByte, b_O_addByte, 2, none)
abbrev b_O_addNumber : ByteArray := prog_6_method_9_code
def y_O_addNumber : MethodName := ⟨aR_O, "addNumber", "(JI)V"⟩
abbrev m_O_addNumber : aj_M := (y_O_addNumber, b_O_addNumber, 5, none)
abbrev b_O_addFrom : ByteArray := prog_6_method_10_code
def y_O_addFrom : MethodName := ⟨aR_O, "addFrom", "(LAppendStore$Octets;II)V"⟩
abbrev m_O_addFrom : aj_M := (y_O_addFrom, b_O_addFrom, 5, none)
abbrev b_O_number : ByteArray := prog_6_method_11_code
def y_O_number : MethodName := ⟨aR_O, "number", "(II)J"⟩
abbrev m_O_number : aj_M := (y_O_number, b_O_number, 6, (some .long))
abbrev b_O_setSum : ByteArray := prog_6_method_12_code
def y_O_setSum : MethodName := ⟨aR_O, "setSum", "(IJ)V"⟩
abbrev m_O_setSum : aj_M := (y_O_setSum, b_O_setSum, 5, none)
abbrev b_O_sum : ByteArray := prog_6_method_13_code
def y_O_sum : MethodName := ⟨aR_O, "sum", "(II)J"⟩
abbrev m_O_sum : aj_M := (y_O_sum, b_O_sum, 6, (some .long))
abbrev b_R_init : ByteArray := prog_7_method_1_code
def y_R_init : MethodName := ⟨aR_R, "<init>", "()V"⟩
abbrev m_R_init : aj_M := (y_R_init, b_R_init, 1, none)
abbrev b_R_isTombstone : ByteArray := prog_7_method_2_code
def y_R_isTombstone : MethodName := ⟨aR_R, "isTombstone", "()Z"⟩
abbrev m_R_isTombstone : aj_M := (y_R_isTombstone, b_R_isTombstone, 1, (some .boolean))
abbrev b_R_keySize : ByteArray := prog_7_method_3_code
def y_R_keySize : MethodName := ⟨aR_R, "keySize", "()I"⟩
abbrev m_R_keySize : aj_M := (y_R_keySize, b_R_keySize, 1, (some .int))
abbrev b_R_size : ByteArray := prog_7_method_4_code
def y_R_size : MethodName := ⟨aR_R, "size", "()I"⟩
abbrev m_R_size : aj_M := (y_R_size, b_R_size, 1, (some .int))
abbrev b_R_fileNumber : ByteArray := prog_7_method_5_code
def y_R_fileNumber : MethodName := ⟨aR_R, "fileNumber", "()I"⟩
abbrev m_R_fileNumber : aj_M := (y_R_fileNumber, b_R_fileNumber, 1, (some .int))
abbrev b_R_isBroken : ByteArray := prog_7_method_6_code
def y_R_isBroken : MethodName := ⟨aR_R, "isBroken", "()Z"⟩
abbrev m_R_isBroken : aj_M := (y_R_isBroken, b_R_isBroken, 1, (some .boolean))
abbrev b_R_value : ByteArray := prog_7_method_7_code
def y_R_value : MethodName := ⟨aR_R, "value", "()J"⟩
abbrev m_R_value : aj_M := (y_R_value, b_R_value, 1, (some .long))
abbrev b_R_addBytesTo : ByteArray := prog_7_method_8_code
def y_R_addBytesTo : MethodName := ⟨aR_R, "addBytesTo", "(LAppendStore$Octets;)V"⟩
abbrev m_R_addBytesTo : aj_M := (y_R_addBytesTo, b_R_addBytesTo, 2, none)
abbrev b_S_init : ByteArray := prog_8_method_1_code
def y_S_init : MethodName := ⟨aR_S, "<init>", "()V"⟩
abbrev m_S_init : aj_M := (y_S_init, b_S_init, 2, none)
abbrev b_S_count : ByteArray := prog_8_method_2_code
def y_S_count : MethodName := ⟨aR_S, "count", "()I"⟩
abbrev m_S_count : aj_M := (y_S_count, b_S_count, 1, (some .int))
abbrev b_S_at : ByteArray := prog_8_method_3_code
def y_S_at : MethodName := ⟨aR_S, "at", "(I)LAppendStore$StoreFile;"⟩
abbrev m_S_at : aj_M := (y_S_at, b_S_at, 2, (some (.object "AppendStore$StoreFile")))
abbrev b_S_sealedCount : ByteArray := prog_8_method_4_code
def y_S_sealedCount : MethodName := ⟨aR_S, "sealedCount", "()I"⟩
abbrev m_S_sealedCount : aj_M := (y_S_sealedCount, b_S_sealedCount, 1, (some .int))
abbrev b_S_withRoomFor : ByteArray := prog_8_method_5_code
def y_S_withRoomFor : MethodName := ⟨aR_S, "withRoomFor", "(I)LAppendStore$StoreFile;"⟩
abbrev m_S_withRoomFor : aj_M := (y_S_withRoomFor, b_S_withRoomFor, 2, (some (.object "AppendStore$StoreFile")))
abbrev b_S_syncActive : ByteArray := prog_8_method_6_code
def y_S_syncActive : MethodName := ⟨aR_S, "syncActive", "()V"⟩
abbrev m_S_syncActive : aj_M := (y_S_syncActive, b_S_syncActive, 1, none)
abbrev b_S_sealActive : ByteArray := prog_8_method_7_code
def y_S_sealActive : MethodName := ⟨aR_S, "sealActive", "()V"⟩
abbrev m_S_sealActive : aj_M := (y_S_sealActive, b_S_sealActive, 1, none)
abbrev b_S_losePower : ByteArray := prog_8_method_8_code
def y_S_losePower : MethodName := ⟨aR_S, "losePower", "(I)V"⟩
abbrev m_S_losePower : aj_M := (y_S_losePower, b_S_losePower, 2, none)
abbrev b_S_exchange : ByteArray := prog_8_method_9_code
def y_S_exchange : MethodName := ⟨aR_S, "exchange", "(ILAppendStore$StoreFile;)LAppendStore$StoreFile;"⟩
abbrev m_S_exchange : aj_M := (y_S_exchange, b_S_exchange, 4, (some (.object "AppendStore$StoreFile")))
abbrev b_S_takeOut : ByteArray := prog_8_method_10_code
def y_S_takeOut : MethodName := ⟨aR_S, "takeOut", "(I)V"⟩
abbrev m_S_takeOut : aj_M := (y_S_takeOut, b_S_takeOut, 4, none)
abbrev b_F_init : ByteArray := prog_9_method_1_code
def y_F_init : MethodName := ⟨aR_F, "<init>", "()V"⟩
abbrev m_F_init : aj_M := (y_F_init, b_F_init, 2, none)
abbrev b_F_begin : ByteArray := prog_9_method_2_code
def y_F_begin : MethodName := ⟨aR_F, "begin", "(I)V"⟩
abbrev m_F_begin : aj_M := (y_F_begin, b_F_begin, 2, none)
abbrev b_F_number : ByteArray := prog_9_method_3_code
def y_F_number : MethodName := ⟨aR_F, "number", "()I"⟩
abbrev m_F_number : aj_M := (y_F_number, b_F_number, 1, (some .int))
abbrev b_F_synced : ByteArray := prog_9_method_4_code
def y_F_synced : MethodName := ⟨aR_F, "synced", "()I"⟩
abbrev m_F_synced : aj_M := (y_F_synced, b_F_synced, 1, (some .int))
abbrev b_F_bytes : ByteArray := prog_9_method_5_code
def y_F_bytes : MethodName := ⟨aR_F, "bytes", "()LAppendStore$Octets;"⟩
abbrev m_F_bytes : aj_M := (y_F_bytes, b_F_bytes, 1, (some (.object "AppendStore$Octets")))
abbrev b_F_hint : ByteArray := prog_9_method_6_code
def y_F_hint : MethodName := ⟨aR_F, "hint", "()LAppendStore$Octets;"⟩
abbrev m_F_hint : aj_M := (y_F_hint, b_F_hint, 1, (some (.object "AppendStore$Octets")))
abbrev b_F_recordCount : ByteArray := prog_9_method_7_code
def y_F_recordCount : MethodName := ⟨aR_F, "recordCount", "()I"⟩
abbrev m_F_recordCount : aj_M := (y_F_recordCount, b_F_recordCount, 1, (some .int))
abbrev b_F_record : ByteArray := prog_9_method_8_code
def y_F_record : MethodName := ⟨aR_F, "record", "(I)LAppendStore$Rec;"⟩
abbrev m_F_record : aj_M := (y_F_record, b_F_record, 2, (some (.object "AppendStore$Rec")))
abbrev b_F_syncAll : ByteArray := prog_9_method_9_code
def y_F_syncAll : MethodName := ⟨aR_F, "syncAll", "()V"⟩
abbrev m_F_syncAll : aj_M := (y_F_syncAll, b_F_syncAll, 1, none)
abbrev b_F_losePower : ByteArray := prog_9_method_10_code
def y_F_losePower : MethodName := ⟨aR_F, "losePower", "(I)V"⟩
abbrev m_F_losePower : aj_M := (y_F_losePower, b_F_losePower, 2, none)
abbrev b_F_liveBytes : ByteArray := prog_9_method_11_code
def y_F_liveBytes : MethodName := ⟨aR_F, "liveBytes", "(LAppendStore$Directory;)I"⟩
abbrev m_F_liveBytes : aj_M := (y_F_liveBytes, b_F_liveBytes, 4, (some .int))
abbrev b_F_append : ByteArray := prog_9_method_12_code
def y_F_append : MethodName := ⟨aR_F, "append", "(IJJI)LAppendStore$Rec;"⟩
abbrev m_F_append : aj_M := (y_F_append, b_F_append, 9, (some (.object "AppendStore$Rec")))
abbrev b_F_appendCopy : ByteArray := prog_9_method_13_code
def y_F_appendCopy : MethodName := ⟨aR_F, "appendCopy", "(LAppendStore$Rec;)V"⟩
abbrev m_F_appendCopy : aj_M := (y_F_appendCopy, b_F_appendCopy, 3, none)
abbrev b_F_hasRightSum : ByteArray := prog_9_method_14_code
def y_F_hasRightSum : MethodName := ⟨aR_F, "hasRightSum", "(II)Z"⟩
abbrev m_F_hasRightSum : aj_M := (y_F_hasRightSum, b_F_hasRightSum, 3, (some .boolean))
abbrev b_F_publishAs : ByteArray := prog_9_method_15_code
def y_F_publishAs : MethodName := ⟨aR_F, "publishAs", "(I)V"⟩
abbrev m_F_publishAs : aj_M := (y_F_publishAs, b_F_publishAs, 4, none)
abbrev b_F_learn : ByteArray := prog_9_method_16_code
def y_F_learn : MethodName := ⟨aR_F, "learn", "(Z)V"⟩
abbrev m_F_learn : aj_M := (y_F_learn, b_F_learn, 2, none)
abbrev b_F_learnFromHint : ByteArray := prog_9_method_17_code
def y_F_learnFromHint : MethodName := ⟨aR_F, "learnFromHint", "()Z"⟩
abbrev m_F_learnFromHint : aj_M := (y_F_learnFromHint, b_F_learnFromHint, 9, (some .boolean))
abbrev b_F_learnFromBytes : ByteArray := prog_9_method_18_code
def y_F_learnFromBytes : MethodName := ⟨aR_F, "learnFromBytes", "()V"⟩
abbrev m_F_learnFromBytes : aj_M := (y_F_learnFromBytes, b_F_learnFromBytes, 7, none)
abbrev b_F_soundSize : ByteArray := prog_9_method_19_code
def y_F_soundSize : MethodName := ⟨aR_F, "soundSize", "(I)I"⟩
abbrev m_F_soundSize : aj_M := (y_F_soundSize, b_F_soundSize, 6, (some .int))
abbrev b_F_note : ByteArray := prog_9_method_20_code
def y_F_note : MethodName := ⟨aR_F, "note", "(IJILAppendStore$Rec;)LAppendStore$Rec;"⟩
abbrev m_F_note : aj_M := (y_F_note, b_F_note, 7, (some (.object "AppendStore$Rec")))
abbrev b_L_put : ByteArray := method_3_code
def y_L_put : MethodName := ⟨aR_L, "put", "(LAppendStore;JIJI)I"⟩
abbrev m_L_put : aj_M := (y_L_put, b_L_put, 8, (some .int))
abbrev b_L_delete : ByteArray := method_4_code
def y_L_delete : MethodName := ⟨aR_L, "delete", "(LAppendStore;JI[J)I"⟩
abbrev m_L_delete : aj_M := (y_L_delete, b_L_delete, 6, (some .int))
abbrev b_L_get : ByteArray := method_5_code
def y_L_get : MethodName := ⟨aR_L, "get", "(LAppendStore;JI[J)I"⟩
abbrev m_L_get : aj_M := (y_L_get, b_L_get, 6, (some .int))
abbrev b_L_keys : ByteArray := method_6_code
def y_L_keys : MethodName := ⟨aR_L, "keys", "(LAppendStore;[J)I"⟩
abbrev m_L_keys : aj_M := (y_L_keys, b_L_keys, 3, (some .int))
abbrev b_L_key : ByteArray := method_7_code
def y_L_key : MethodName := ⟨aR_L, "key", "(LAppendStore;II[J)I"⟩
abbrev m_L_key : aj_M := (y_L_key, b_L_key, 5, (some .int))
abbrev b_L_sync : ByteArray := method_8_code
def y_L_sync : MethodName := ⟨aR_L, "sync", "(LAppendStore;)I"⟩
abbrev m_L_sync : aj_M := (y_L_sync, b_L_sync, 2, (some .int))
abbrev b_L_lose : ByteArray := method_9_code
def y_L_lose : MethodName := ⟨aR_L, "lose", "(LAppendStore;I)I"⟩
abbrev m_L_lose : aj_M := (y_L_lose, b_L_lose, 3, (some .int))
abbrev b_L_merge : ByteArray := method_10_code
def y_L_merge : MethodName := ⟨aR_L, "merge", "(LAppendStore;I[J)I"⟩
abbrev m_L_merge : aj_M := (y_L_merge, b_L_merge, 4, (some .int))
abbrev b_L_file : ByteArray := method_11_code
def y_L_file : MethodName := ⟨aR_L, "file", "(LAppendStore;II[J)I"⟩
abbrev m_L_file : aj_M := (y_L_file, b_L_file, 5, (some .int))
abbrev b_L_octet : ByteArray := method_12_code
def y_L_octet : MethodName := ⟨aR_L, "octet", "(LAppendStore;IIZ[J)I"⟩
abbrev m_L_octet : aj_M := (y_L_octet, b_L_octet, 6, (some .int))
abbrev b_L_spoil : ByteArray := method_13_code
def y_L_spoil : MethodName := ⟨aR_L, "spoil", "(LAppendStore;IIZI)I"⟩
abbrev m_L_spoil : aj_M := (y_L_spoil, b_L_spoil, 6, (some .int))
abbrev b_L_law : ByteArray := code
def y_L_law : MethodName := ⟨aR_L, "law", "([I)Z"⟩
abbrev m_L_law : aj_M := (y_L_law, b_L_law, 8, (some .boolean))
/-- the words that the tables keep while code runs -/
def aw_ok : Cond → Bool
  | .fieldLinkNest .. => true
  | .methodLinkNest .. => true
  | .castable .. => true
  | .arrayOver (.object _) => true
  | w => goodWord w
def aw_ws : List Cond := lw_tbl.filter aw_ok
theorem aw_ws_ok {w : Cond} (h : w ∈ aw_ws) : aw_ok w = true := (List.mem_filter.mp h).2
theorem aw_sel {q : MethodName × Nat} (h : q ∈ lw_privs) : Cond.selects q.1.cls q.1 q.1 ∈ aw_ws := List.mem_filter.mpr ⟨List.mem_append_left _ (List.mem_map.mpr ⟨q, h, rfl⟩), rfl⟩
theorem aw_t1 {w : Cond} (h : w ∈ tables_1_1) (ho : aw_ok w = true) : w ∈ aw_ws := List.mem_filter.mpr ⟨List.mem_append_right _ (List.mem_append_left _ h), ho⟩
theorem aw_t2 {w : Cond} (h : w ∈ tables_1_2) (ho : aw_ok w = true) : w ∈ aw_ws := List.mem_filter.mpr ⟨List.mem_append_right _ (List.mem_append_right _ (List.mem_append_left _ h)), ho⟩
theorem aw_t3 {w : Cond} (h : w ∈ tables_1_3) (ho : aw_ok w = true) : w ∈ aw_ws := List.mem_filter.mpr ⟨List.mem_append_right _ (List.mem_append_right _ (List.mem_append_right _ (List.mem_append_left _ h))), ho⟩
theorem aw_t4 {w : Cond} (h : w ∈ tables_1_4) (ho : aw_ok w = true) : w ∈ aw_ws := List.mem_filter.mpr ⟨List.mem_append_right _ (List.mem_append_right _ (List.mem_append_right _ (List.mem_append_right _ (List.mem_append_left _ h)))), ho⟩
theorem aw_t5 {w : Cond} (h : w ∈ tables_1_5) (ho : aw_ok w = true) : w ∈ aw_ws := List.mem_filter.mpr ⟨List.mem_append_right _ (List.mem_append_right _ (List.mem_append_right _ (List.mem_append_right _ (List.mem_append_right _ (h))))), ho⟩
end
section
/-! ===== a world by addresses: what is known of the heap, as a function; arrays by the number of their type ===== -/
abbrev aw_M : Type := Nat → Option va_E
/-- the heap's size where it is known, and what lies in it -/
abbrev aw_W : Type := Option Nat × aw_M
def aw_up (dA : Nat → ClassId) (e : va_E) : va_E := match e with
  | .inl a => .inl (dA a.1, a.2)
  | .inr o => .inr o
def aw_R (D : va_G) (dA : Nat → ClassId) (w : aw_W) (H : Heap) : Prop := (∀ z, w.1 = some z → H.size = z) ∧ ∀ a e, w.2 a = some e → va_at D aCl (a, aw_up dA e) H
def aw_set (w : aw_W) (a : Nat) (e : va_E) : aw_W := (w.1, fun q => if q = a then some e else w.2 q)
def aw_add (w : aw_W) (z : Nat) (e : va_E) : aw_W := (some (z + 1), fun q => if q = z then some e else w.2 q)
/-- every cell of the world lies from the base on -/
def aw_In (base : Nat) (w : aw_W) : Prop := ∀ a e, w.2 a = some e → base ≤ a
theorem aw_set_get {w : aw_W} {a : Nat} {e : va_E} {q : Nat} : (aw_set w a e).2 q = if q = a then some e else w.2 q := rfl
theorem aw_add_get {w : aw_W} {z : Nat} {e : va_E} {q : Nat} : (aw_add w z e).2 q = if q = z then some e else w.2 q := rfl
/-! reads and writes of the world, by a reference that may be null -/
def aw_obj (w : aw_W) (r : Option Nat) (ci : Nat) : Option (Nat × List Value) := match r with
  | none => none
  | some a => match w.2 a with
    | some (.inr o) => if o.1 = ci then some (a, o.2) else none
    | _ => none
def aw_arr (w : aw_W) (r : Option Nat) (t : Nat) : Option (Nat × vp_A) := match r with
  | none => none
  | some a => match w.2 a with
    | some (.inl x) => if x.1 = t then some (a, x.2) else none
    | _ => none
theorem aw_obj_some {w : aw_W} {r : Option Nat} {ci : Nat} {q : Nat × List Value} (h : aw_obj w r ci = some q) : r = some q.1 ∧ w.2 q.1 = some (.inr (ci, q.2)) := by
  unfold aw_obj at h
  cases r with
  | none => simp at h
  | some a =>
    dsimp only at h
    cases hw : w.2 a with
    | none => rw [hw] at h; simp at h
    | some e =>
      rw [hw] at h
      cases e with
      | inl x => simp at h
      | inr o =>
        obtain ⟨o1, o2⟩ := o
        dsimp only at h
        by_cases hc : o1 = ci
        · rw [if_pos hc] at h
          cases h
          exact ⟨rfl, by rw [hw, hc]⟩
        · rw [if_neg hc] at h; simp at h
theorem aw_arr_some {w : aw_W} {r : Option Nat} {t : Nat} {q : Nat × vp_A} (h : aw_arr w r t = some q) : r = some q.1 ∧ w.2 q.1 = some (.inl (t, q.2)) := by
  unfold aw_arr at h
  cases r with
  | none => simp at h
  | some a =>
    dsimp only at h
    cases hw : w.2 a with
    | none => rw [hw] at h; simp at h
    | some e =>
      rw [hw] at h
      cases e with
      | inr x => simp at h
      | inl o =>
        obtain ⟨o1, o2⟩ := o
        dsimp only at h
        by_cases hc : o1 = t
        · rw [if_pos hc] at h
          cases h
          exact ⟨rfl, by rw [hw, hc]⟩
        · rw [if_neg hc] at h; simp at h
theorem aw_obj_of {w : aw_W} {a ci : Nat} {fs : List Value} (h : w.2 a = some (.inr (ci, fs))) : aw_obj w (some a) ci = some (a, fs) := by
  unfold aw_obj
  dsimp only
  rw [h]
  exact if_pos rfl
theorem aw_arr_of {w : aw_W} {a t : Nat} {x : vp_A} (h : w.2 a = some (.inl (t, x))) : aw_arr w (some a) t = some (a, x) := by
  unfold aw_arr
  dsimp only
  rw [h]
  exact if_pos rfl
/-- a field -/
def aw_gV (w : aw_W) (r : Option Nat) (ci k : Nat) : Option Value := (aw_obj w r ci).bind fun q => q.2[k]?
def aw_vI (v : Value) : Option Int32 := match v with
  | .int x => some x
  | _ => none
def aw_vL (v : Value) : Option Int64 := match v with
  | .long x => some x
  | _ => none
def aw_vR (v : Value) : Option (Option Nat) := match v with
  | .ref a => some (some a)
  | .null => some none
  | _ => none
def aw_gI (w : aw_W) (r : Option Nat) (ci k : Nat) : Option Int32 := (aw_gV w r ci k).bind aw_vI
def aw_gL (w : aw_W) (r : Option Nat) (ci k : Nat) : Option Int64 := (aw_gV w r ci k).bind aw_vL
def aw_gR (w : aw_W) (r : Option Nat) (ci k : Nat) : Option (Option Nat) := (aw_gV w r ci k).bind aw_vR
def aw_pV (w : aw_W) (r : Option Nat) (ci k : Nat) (v : Value) : Option aw_W := (aw_obj w r ci).bind fun q => if k < q.2.length then some (aw_set w q.1 (.inr (ci, q.2.set k v))) else none
theorem aw_vI_some {v : Value} {x : Int32} (h : aw_vI v = some x) : v = .int x := by
  cases v <;> simp [aw_vI] at h
  rw [h]
theorem aw_vL_some {v : Value} {x : Int64} (h : aw_vL v = some x) : v = .long x := by
  cases v <;> simp [aw_vL] at h
  rw [h]
theorem aw_vR_some {v : Value} {x : Option Nat} (h : aw_vR v = some x) : v = va_rf x := by
  cases v <;> simp [aw_vR] at h <;> (rw [← h]; rfl)
/-- an element -/
def aw_out (i : Int32) (n : Nat) : Prop := i < 0 ∨ n ≤ i.toNatClampNeg
def aw_ix (i : Int32) (n : Nat) : Option Nat := if i < 0 then none else if n ≤ i.toNatClampNeg then none else some i.toNatClampNeg
theorem aw_ix_some {i : Int32} {n j : Nat} (h : aw_ix i n = some j) : vp_in i n ∧ i.toNatClampNeg = j := by
  unfold aw_ix at h
  by_cases h1 : i < 0
  · rw [if_pos h1] at h; cases h
  · rw [if_neg h1] at h
    by_cases h2 : n ≤ i.toNatClampNeg
    · rw [if_pos h2] at h; cases h
    · rw [if_neg h2] at h
      exact ⟨fun q => q.elim h1 h2, Option.some.inj h⟩
theorem aw_ix_nI {j n : Nat} (h : j < n) (hn : n < 2 ^ 31) : aw_ix (nI j) n = some j := by
  have h1 := nI_pos (n := j) (by omega)
  have h2 := nI_clamp (n := j) (by omega)
  unfold aw_ix
  rw [if_neg h1, h2, if_neg (by omega)]
def aw_len (w : aw_W) (r : Option Nat) (t : Nat) : Option Int32 := (aw_arr w r t).map fun q => Int32.ofNat q.2.1
def aw_aI (w : aw_W) (r : Option Nat) (t : Nat) (i : Int32) : Option Int32 := (aw_arr w r t).bind fun q => match q.2.2 with
  | .inl f => (aw_ix i q.2.1).map f
  | _ => none
def aw_aL (w : aw_W) (r : Option Nat) (t : Nat) (i : Int32) : Option Int64 := (aw_arr w r t).bind fun q => match q.2.2 with
  | .inr (.inl f) => (aw_ix i q.2.1).map f
  | _ => none
def aw_aR (w : aw_W) (r : Option Nat) (t : Nat) (i : Int32) : Option (Option Nat) := (aw_arr w r t).bind fun q => match q.2.2 with
  | .inr (.inr (.inr (.inr f))) => (aw_ix i q.2.1).map f
  | _ => none
def aw_sI (w : aw_W) (r : Option Nat) (t : Nat) (i : Int32) (x : Int32) : Option aw_W := (aw_arr w r t).bind fun q => match q.2.2 with
  | .inl f => (aw_ix i q.2.1).map fun j => aw_set w q.1 (.inl (t, q.2.1, .inl (upd f j x)))
  | _ => none
def aw_sL (w : aw_W) (r : Option Nat) (t : Nat) (i : Int32) (x : Int64) : Option aw_W := (aw_arr w r t).bind fun q => match q.2.2 with
  | .inr (.inl f) => (aw_ix i q.2.1).map fun j => aw_set w q.1 (.inl (t, q.2.1, .inr (.inl (vp_updL f j x))))
  | _ => none
def aw_sR (w : aw_W) (r : Option Nat) (t : Nat) (i : Int32) (x : Option Nat) : Option aw_W := (aw_arr w r t).bind fun q => match q.2.2 with
  | .inr (.inr (.inr (.inr f))) => (aw_ix i q.2.1).map fun j => aw_set w q.1 (.inl (t, q.2.1, .inr (.inr (.inr (.inr (va_up f j x))))))
  | _ => none
theorem aw_aI_some {w : aw_W} {r : Option Nat} {t : Nat} {i x : Int32} (h : aw_aI w r t i = some x) : ∃ a n f, r = some a ∧ w.2 a = some (.inl (t, n, .inl f)) ∧ vp_in i n ∧ f i.toNatClampNeg = x := by
  obtain ⟨⟨a, n, g⟩, h1, h2⟩ := Option.bind_eq_some_iff.mp h
  obtain ⟨e1, e2⟩ := aw_arr_some h1
  dsimp only at e1 e2 h2
  cases g with
  | inl f =>
    obtain ⟨j, h3, h4⟩ := Option.map_eq_some_iff.mp h2
    obtain ⟨h5, h6⟩ := aw_ix_some h3
    exact ⟨a, n, f, e1, e2, h5, by rw [h6]; exact h4⟩
  | inr g => simp at h2
theorem aw_aL_some {w : aw_W} {r : Option Nat} {t : Nat} {i : Int32} {x : Int64} (h : aw_aL w r t i = some x) : ∃ a n f, r = some a ∧ w.2 a = some (.inl (t, n, .inr (.inl f))) ∧ vp_in i n ∧ f i.toNatClampNeg = x := by
  obtain ⟨⟨a, n, g⟩, h1, h2⟩ := Option.bind_eq_some_iff.mp h
  obtain ⟨e1, e2⟩ := aw_arr_some h1
  dsimp only at e1 e2 h2
  rcases g with f | f | g
  · simp at h2
  · obtain ⟨j, h3, h4⟩ := Option.map_eq_some_iff.mp h2
    obtain ⟨h5, h6⟩ := aw_ix_some h3
    exact ⟨a, n, f, e1, e2, h5, by rw [h6]; exact h4⟩
  · simp at h2
theorem aw_aR_some {w : aw_W} {r : Option Nat} {t : Nat} {i : Int32} {x : Option Nat} (h : aw_aR w r t i = some x) : ∃ a n f, r = some a ∧ w.2 a = some (.inl (t, n, .inr (.inr (.inr (.inr f))))) ∧ vp_in i n ∧ f i.toNatClampNeg = x := by
  obtain ⟨⟨a, n, g⟩, h1, h2⟩ := Option.bind_eq_some_iff.mp h
  obtain ⟨e1, e2⟩ := aw_arr_some h1
  dsimp only at e1 e2 h2
  rcases g with f | f | f | f | f
  · simp at h2
  · simp at h2
  · simp at h2
  · simp at h2
  · obtain ⟨j, h3, h4⟩ := Option.map_eq_some_iff.mp h2
    obtain ⟨h5, h6⟩ := aw_ix_some h3
    exact ⟨a, n, f, e1, e2, h5, by rw [h6]; exact h4⟩
theorem aw_sI_some {w w' : aw_W} {r : Option Nat} {t : Nat} {i x : Int32} (h : aw_sI w r t i x = some w') : ∃ a n f, r = some a ∧ w.2 a = some (.inl (t, n, .inl f)) ∧ vp_in i n ∧ w' = aw_set w a (.inl (t, n, .inl (upd f i.toNatClampNeg x))) := by
  obtain ⟨⟨a, n, g⟩, h1, h2⟩ := Option.bind_eq_some_iff.mp h
  obtain ⟨e1, e2⟩ := aw_arr_some h1
  dsimp only at e1 e2 h2
  cases g with
  | inl f =>
    obtain ⟨j, h3, h4⟩ := Option.map_eq_some_iff.mp h2
    obtain ⟨h5, h6⟩ := aw_ix_some h3
    exact ⟨a, n, f, e1, e2, h5, by rw [h6]; exact h4.symm⟩
  | inr g => simp at h2
theorem aw_sL_some {w w' : aw_W} {r : Option Nat} {t : Nat} {i : Int32} {x : Int64} (h : aw_sL w r t i x = some w') : ∃ a n f, r = some a ∧ w.2 a = some (.inl (t, n, .inr (.inl f))) ∧ vp_in i n ∧ w' = aw_set w a (.inl (t, n, .inr (.inl (vp_updL f i.toNatClampNeg x)))) := by
  obtain ⟨⟨a, n, g⟩, h1, h2⟩ := Option.bind_eq_some_iff.mp h
  obtain ⟨e1, e2⟩ := aw_arr_some h1
  dsimp only at e1 e2 h2
  rcases g with f | f | g
  · simp at h2
  · obtain ⟨j, h3, h4⟩ := Option.map_eq_some_iff.mp h2
    obtain ⟨h5, h6⟩ := aw_ix_some h3
    exact ⟨a, n, f, e1, e2, h5, by rw [h6]; exact h4.symm⟩
  · simp at h2
theorem aw_sR_some {w w' : aw_W} {r : Option Nat} {t : Nat} {i : Int32} {x : Option Nat} (h : aw_sR w r t i x = some w') : ∃ a n f, r = some a ∧ w.2 a = some (.inl (t, n, .inr (.inr (.inr (.inr f))))) ∧ vp_in i n ∧ w' = aw_set w a (.inl (t, n, .inr (.inr (.inr (.inr (va_up f i.toNatClampNeg x)))))) := by
  obtain ⟨⟨a, n, g⟩, h1, h2⟩ := Option.bind_eq_some_iff.mp h
  obtain ⟨e1, e2⟩ := aw_arr_some h1
  dsimp only at e1 e2 h2
  rcases g with f | f | f | f | f
  · simp at h2
  · simp at h2
  · simp at h2
  · simp at h2
  · obtain ⟨j, h3, h4⟩ := Option.map_eq_some_iff.mp h2
    obtain ⟨h5, h6⟩ := aw_ix_some h3
    exact ⟨a, n, f, e1, e2, h5, by rw [h6]; exact h4.symm⟩
theorem aw_pV_some {w w' : aw_W} {r : Option Nat} {ci k : Nat} {v : Value} (h : aw_pV w r ci k v = some w') : ∃ a fs, r = some a ∧ w.2 a = some (.inr (ci, fs)) ∧ k < fs.length ∧ w' = aw_set w a (.inr (ci, fs.set k v)) := by
  obtain ⟨⟨a, fs⟩, h1, h2⟩ := Option.bind_eq_some_iff.mp h
  obtain ⟨e1, e2⟩ := aw_obj_some h1
  dsimp only at e1 e2 h2
  by_cases hk : k < fs.length
  · rw [if_pos hk] at h2
    exact ⟨a, fs, e1, e2, hk, (Option.some.inj h2).symm⟩
  · rw [if_neg hk] at h2; cases h2
theorem aw_gV_some {w : aw_W} {r : Option Nat} {ci k : Nat} {v : Value} (h : aw_gV w r ci k = some v) : ∃ a fs, r = some a ∧ w.2 a = some (.inr (ci, fs)) ∧ fs[k]? = some v := by
  obtain ⟨⟨a, fs⟩, h1, h2⟩ := Option.bind_eq_some_iff.mp h
  obtain ⟨e1, e2⟩ := aw_obj_some h1
  exact ⟨a, fs, e1, e2, h2⟩
/-! the world and the heap -/
theorem aw_R.cell {D : va_G} {dA : Nat → ClassId} {w : aw_W} {H : Heap} (h : aw_R D dA w H) {a : Nat} {e : va_E} (he : w.2 a = some e) : va_P D aCl [(a, aw_up dA e)] H := by
  intro k q hk
  have hz : k < 1 := (List.getElem?_eq_some_iff.mp hk).1
  rw [show k = 0 by omega] at hk
  cases hk
  exact h.2 a e he
theorem aw_R.set {D : va_G} {dA : Nat → ClassId} {w : aw_W} {H H1 : Heap} (h : aw_R D dA w H) {a : Nat} {e : va_E} (he : va_at D aCl (a, aw_up dA e) H1) (hz : H1.size = H.size) (hq : ∀ q : Nat, q ≠ a → H1[q]? = H[q]?) : aw_R D dA (aw_set w a e) H1 := by
  refine ⟨fun z hz' => (by rw [hz]; exact h.1 z hz'), fun q e' he' => ?_⟩
  rw [aw_set_get] at he'
  by_cases hqa : q = a
  · rw [if_pos hqa] at he'
    cases he'
    rw [hqa]
    exact he
  · rw [if_neg hqa] at he'
    exact (h.2 q e' he').kept (hq q hqa)
theorem aw_R.add {D : va_G} {dA : Nat → ClassId} {w : aw_W} {H H1 : Heap} (h : aw_R D dA w H) {z : Nat} {e : va_E} (hz : H.size = z) (he : va_at D aCl (z, aw_up dA e) H1) (hz1 : H1.size = z + 1) (hq : ∀ q : Nat, q < z → H1[q]? = H[q]?) : aw_R D dA (aw_add w z e) H1 := by
  refine ⟨fun z' hz' => (by cases hz'; exact hz1), fun q e' he' => ?_⟩
  rw [aw_add_get] at he'
  by_cases hqa : q = z
  · rw [if_pos hqa] at he'
    cases he'
    rw [hqa]
    exact he
  · rw [if_neg hqa] at he'
    have hlt := (h.2 q e' he').lt
    exact (h.2 q e' he').kept (hq q (by rw [← hz]; exact hlt))
theorem aw_R.kept {D : va_G} {dA : Nat → ClassId} {w : aw_W} {H H1 : Heap} (h : aw_R D dA w H) (hq : ∀ q : Nat, q < H.size → H1[q]? = H[q]?) : aw_R D dA (none, w.2) H1 := by
  refine ⟨fun z hz => (by cases hz), fun q e he => ?_⟩
  exact (h.2 q e he).kept (hq q (h.2 q e he).lt)
theorem aw_In.set {base : Nat} {w : aw_W} (h : aw_In base w) {a : Nat} {e e0 : va_E} (ha : w.2 a = some e0) : aw_In base (aw_set w a e) := by
  intro q e' he
  rw [aw_set_get] at he
  by_cases hq : q = a
  · rw [hq]; exact h a e0 ha
  · rw [if_neg hq] at he; exact h q e' he
theorem aw_In.add {base : Nat} {w : aw_W} (h : aw_In base w) {z : Nat} {e : va_E} (hz : base ≤ z) : aw_In base (aw_add w z e) := by
  intro q e' he
  rw [aw_add_get] at he
  by_cases hq : q = z
  · rw [hq]; exact hz
  · rw [if_neg hq] at he; exact h q e' he
/-! a loop that comes to an end, as a partial function -/
def aw_it {σ τ : Type} (body : σ → Option (σ ⊕ τ)) : Nat → σ → Option τ
  | 0, _ => none
  | n + 1, s => match body s with
    | none => none
    | some (.inl s') => aw_it body n s'
    | some (.inr r) => some r
noncomputable def aw_wh {σ τ : Type} (body : σ → Option (σ ⊕ τ)) (s : σ) : Option τ :=
  match Classical.propDecidable (∃ (n : Nat) (r : τ), aw_it body n s = some r) with
  | .isTrue h => aw_it body (Classical.choose h) s
  | .isFalse _ => none
theorem aw_it_mono {σ τ : Type} {body : σ → Option (σ ⊕ τ)} : ∀ (n m : Nat) (s : σ) (r : τ), n ≤ m → aw_it body n s = some r → aw_it body m s = some r := by
  intro n
  induction n with
  | zero => intro m s r _ h; cases h
  | succ n ih =>
    intro m s r hm h
    cases m with
    | zero => omega
    | succ m =>
      simp only [aw_it] at h ⊢
      cases hb : body s with
      | none => rw [hb] at h; cases h
      | some x =>
        rw [hb] at h
        cases x with
        | inl s' => exact ih m s' r (by omega) h
        | inr r' => exact h
theorem aw_wh_it {σ τ : Type} {body : σ → Option (σ ⊕ τ)} {s : σ} {r : τ} (h : aw_wh body s = some r) : ∃ n, aw_it body n s = some r := by
  unfold aw_wh at h
  split at h
  · next hx _ => exact ⟨_, h⟩
  · cases h
theorem aw_wh_of {σ τ : Type} {body : σ → Option (σ ⊕ τ)} {s : σ} {r : τ} {n : Nat} (h : aw_it body n s = some r) : aw_wh body s = some r := by
  unfold aw_wh
  split
  · next hx _ =>
    obtain ⟨r', hr'⟩ := Classical.choose_spec hx
    rw [hr']
    rcases Nat.le_total n (Classical.choose hx) with hle | hle
    · exact hr'.symm.trans (aw_it_mono _ _ _ _ hle h)
    · exact (aw_it_mono _ _ _ _ hle hr').symm.trans h
  · next hx _ => exact absurd ⟨n, r, h⟩ hx
theorem aw_wh_in {σ τ : Type} {body : σ → Option (σ ⊕ τ)} {s s' : σ} (h : body s = some (.inl s')) : aw_wh body s = aw_wh body s' := by
  cases hw : aw_wh body s' with
  | some r =>
    obtain ⟨n, hn⟩ := aw_wh_it hw
    exact aw_wh_of (n := n + 1) (by simp only [aw_it]; rw [h]; exact hn)
  | none =>
    cases hs : aw_wh body s with
    | none => rfl
    | some r =>
      obtain ⟨n, hn⟩ := aw_wh_it hs
      cases n with
      | zero => cases hn
      | succ n =>
        simp only [aw_it] at hn
        rw [h] at hn
        rw [aw_wh_of hn] at hw
        cases hw
theorem aw_wh_out {σ τ : Type} {body : σ → Option (σ ⊕ τ)} {s : σ} {r : τ} (h : body s = some (.inr r)) : aw_wh body s = some r :=
  aw_wh_of (n := 1) (by simp only [aw_it]; rw [h])
theorem aw_wh_elim {σ τ : Type} {body : σ → Option (σ ⊕ τ)} {r : τ} (P : σ → Prop) (hP : ∀ (s : σ) (x : σ ⊕ τ), body s = some x → (∀ s', x = .inl s' → P s') → (∀ r', x = .inr r' → r' = r) → P s) {s : σ} (h : aw_wh body s = some r) : P s := by
  obtain ⟨n, hn⟩ := aw_wh_it h
  clear h
  induction n generalizing s with
  | zero => cases hn
  | succ n ih =>
    simp only [aw_it] at hn
    cases hb : body s with
    | none => rw [hb] at hn; cases hn
    | some x =>
      rw [hb] at hn
      refine hP s x hb (fun s' e => ?_) (fun r' e => ?_)
      · subst e
        exact ih hn
      · subst e
        exact Option.some.inj hn
end
section
/-! ===== what stays the same while a method runs, and the judgement 'from here the method comes to its end' ===== -/
def aw_tys (dA : Nat → ClassId) : List (ClassId × FieldType) := [(dA 0, .byte), (dA 1, .int), (dA 2, .long), (dA 3, .boolean), (dA 4, .object "AppendStore$Rec"), (dA 5, .object "AppendStore$StoreFile")]
theorem aw_at {w : Cond} (h : aw_ok w = true) {s U : State} {A : Array Value} (hW : s.WarmedH U.vm) (hs : va_Nw w s) : w.before A U = true := by
  cases w <;> first
    | exact va_Nw.use rfl (va_Nw.warmF hW hs)
    | exact va_Nw.use rfl (va_Nw.warmM hW hs)
    | exact va_Nw.use rfl (va_Nw.warmC hW hs)
    | exact word_at hW (good_of_word h) hs
    | (next ty => cases ty <;> first | exact va_AO.use (va_AO.moved hW.alike (va_AO.of hs)) | exact word_at hW (good_of_word h) hs)
/-- a static field of a reference, its cell below the base: what it holds, where it lies -/
def aw_Z (n d : String) (base : Nat) (U : State) (H : Heap) : Prop := va_Zq "java/lang/Throwable" n d (fun q => base ≤ q) U H ∧
  ∃ (c : ClassId) (k : Class) (i : Nat) (f : Field) (a : Nat) (cell : Cell), U.vm.findClass "java/lang/Throwable" = some c ∧ U.fieldFound? "java/lang/Throwable" n d = some (c, k, i, f) ∧ f.isStatic = true ∧ k.statics = some a ∧ H[a]? = some cell ∧ cell.vm.isStatics = true ∧ cell.cls = c ∧ f.slot < cell.slots.size ∧ k.staticTypes[f.slot]? = some f.type ∧ ¬ base ≤ a
theorem aw_Z.moved {n d : String} {base : Nat} {u U : State} {H : Heap} (hvm : u.vm.Alike U.vm) (h : aw_Z n d base u H) : aw_Z n d base U H := by
  obtain ⟨h0, c, k, i, f, a, cell, h1, h2, h3, h4, h5, h6, h7, h8, h9, h10⟩ := h
  obtain ⟨k', hi', he⟩ := State.fieldFound?_setVm hvm h2
  exact ⟨h0.moved hvm, c, k', i, f, a, cell, by rw [hvm.findClass]; exact h1, hi', h3, by rw [he]; exact h4, h5, h6, h7, h8, by rw [he]; exact h9, h10⟩
theorem aw_Z.kept {n d : String} {base : Nat} {U : State} {H H1 : Heap} (h : aw_Z n d base U H) (hq : ∀ a : Nat, a < H.size → ¬ base ≤ a → H1[a]? = H[a]?) : aw_Z n d base U H1 := by
  obtain ⟨h0, c, k, i, f, a, cell, h1, h2, h3, h4, h5, h6, h7, h8, h9, h10⟩ := h
  exact ⟨h0.kept hq, c, k, i, f, a, cell, h1, h2, h3, h4, by rw [hq a (Array.getElem?_eq_some_iff.mp h5).1 h10]; exact h5, h6, h7, h8, h9, h10⟩
/-- the texts that are thrown -/
def aw_ss : List (String × Nat × String) := [("AppendStore", 204, "a number is outside its range"), ("AppendStore", 202, "the store is closed"), ("AppendStore", 219, "full"), ("AppendStore", 63, "the key has no value"), ("AppendStore", 76, "the record is broken"), ("AppendStore", 91, "there is no such key"), ("AppendStore", 148, "there is no sealed file"), ("AppendStore", 168, "there is no such file"), ("AppendStore", 210, "there is no such byte")]
def aw_K (D : va_G) (dA : Nat → ClassId) (base : Nat) (U : State) : Prop :=
  va_K D aCl (aw_tys dA) U ∧ (∀ w ∈ aw_ws, va_Nw w U) ∧ (∀ q ∈ aw_ss, ∃ a, vk_R q.1 q.2.1 q.2.2 a U) ∧ aw_Z "UNASSIGNED_STACK" "[Ljava/lang/StackTraceElement;" base U U.heap ∧ aw_Z "SUPPRESSED_SENTINEL" "Ljava/util/List;" base U U.heap ∧ base ≤ U.heap.size
theorem aw_K.warm {D : va_G} {dA : Nat → ClassId} {base : Nat} {s U : State} (h : aw_K D dA base s) (hW : s.WarmedH U.vm) (hz : s.heap.size ≤ U.heap.size) (hq : ∀ q : Nat, q < s.heap.size → ¬ base ≤ q → U.heap[q]? = s.heap[q]?) : aw_K D dA base U := by
  obtain ⟨k1, k2, k3, k4, k5, k6⟩ := h
  refine ⟨va_K.moved hW.alike k1, fun w hw => aw_at (aw_ws_ok hw) hW (k2 w hw), fun q hq9 => ?_, aw_Z.moved hW.alike (k4.kept hq), aw_Z.moved hW.alike (k5.kept hq), Nat.le_trans k6 hz⟩
  obtain ⟨a, ha⟩ := k3 q hq9
  exact ⟨a, vk_R.warm hW ha⟩
/-- the machine, the launch, .. of a method that runs; its end; the classes' numbers; the base -/
abbrev aj_G : Type := Program × Launch × Env × Room × State × MethodId × Array Value × List Frame × Method × Code × (State → Prop) × va_G × (Nat → ClassId) × Nat
abbrev gp (Γ : aj_G) : Program := Γ.1
abbrev gl (Γ : aj_G) : Launch := Γ.2.1
abbrev ge (Γ : aj_G) : Env := Γ.2.2.1
abbrev gR (Γ : aj_G) : Room := Γ.2.2.2.1
abbrev gs (Γ : aj_G) : State := Γ.2.2.2.2.1
abbrev gm (Γ : aj_G) : MethodId := Γ.2.2.2.2.2.1
abbrev ga (Γ : aj_G) : Array Value := Γ.2.2.2.2.2.2.1
abbrev gb (Γ : aj_G) : List Frame := Γ.2.2.2.2.2.2.2.1
abbrev gme (Γ : aj_G) : Method := Γ.2.2.2.2.2.2.2.2.1
abbrev gc (Γ : aj_G) : Code := Γ.2.2.2.2.2.2.2.2.2.1
abbrev gQ (Γ : aj_G) : State → Prop := Γ.2.2.2.2.2.2.2.2.2.2.1
abbrev gD (Γ : aj_G) : va_G := Γ.2.2.2.2.2.2.2.2.2.2.2.1
abbrev gA (Γ : aj_G) : Nat → ClassId := Γ.2.2.2.2.2.2.2.2.2.2.2.2.1
abbrev gB (Γ : aj_G) : Nat := Γ.2.2.2.2.2.2.2.2.2.2.2.2.2
def aj_ok (Γ : aj_G) (y : MethodName) (cc : ByteArray) (nL : Nat) (ret : Option FieldType) (rm : Room) : Prop :=
  (gp Γ).tables.exec = Jvm.exec ∧ (gc Γ).code = cc ∧ (gc Γ).maxLocals = nL ∧ (gs Γ).vm.findClass y.cls = some (gm Γ).cls ∧ aw_K (gD Γ) (gA Γ) (gB Γ) (gs Γ) ∧ (gme Γ).locks = false ∧ (gme Γ).sig.returnType = ret ∧ (gl Γ).stackTraces = false ∧ gR Γ = rm ∧ (gme Γ).name = y.name
section
variable {Γ : aj_G} {y : MethodName} {cc : ByteArray} {nL : Nat} {ret : Option FieldType} {rm : Room}
theorem aj_ok.maxL (G : aj_ok Γ y cc nL ret rm) : (gc Γ).maxLocals = nL := G.2.2.1
theorem aj_ok.own (G : aj_ok Γ y cc nL ret rm) : (gs Γ).vm.findClass y.cls = some (gm Γ).cls := G.2.2.2.1
theorem aj_ok.K (G : aj_ok Γ y cc nL ret rm) : aw_K (gD Γ) (gA Γ) (gB Γ) (gs Γ) := G.2.2.2.2.1
theorem aj_ok.locks (G : aj_ok Γ y cc nL ret rm) : (gme Γ).locks = false := G.2.2.2.2.2.1
theorem aj_ok.retT (G : aj_ok Γ y cc nL ret rm) : (gme Γ).sig.returnType = ret := G.2.2.2.2.2.2.1
theorem aj_ok.off (G : aj_ok Γ y cc nL ret rm) : (gl Γ).stackTraces = false := G.2.2.2.2.2.2.2.1
theorem aj_ok.room (G : aj_ok Γ y cc nL ret rm) : gR Γ = rm := G.2.2.2.2.2.2.2.2.1
theorem aj_ok.name (G : aj_ok Γ y cc nL ret rm) : (gme Γ).name = y.name := G.2.2.2.2.2.2.2.2.2
theorem aj_ok.word (G : aj_ok Γ y cc nL ret rm) {w : Cond} (hw : w ∈ aw_ws) {A : Array Value} : w.before A (gs Γ) = true := aw_at (aw_ws_ok hw) (State.WarmedH.refl (gs Γ)) (G.K.2.1 w hw)
end
def aj_J (Γ : aj_G) (nL : Nat) (k : Nat × Nat) (pc : Nat) (lv : List (Nat × Value)) (st : List Value) (w : aw_W) : Prop :=
  ∀ (ls : Array Slot) (H : Heap) (locs : List Loc), lv_has ls nL lv → aw_R (gD Γ) (gA Γ) w H → aw_In (gB Γ) w → va_S (fun q => gB Γ ≤ q) (gs Γ).heap H locs →
    W (gp Γ) (gl Γ) (ge Γ) (gR Γ) (gs Γ) (gm Γ) (ga Γ) (gb Γ) (gme Γ) (gc Γ) H locs k.1 k.2 (gQ Γ) (F0 (gm Γ) pc ls st)
/-! locals by their numbers -/
def aj_get (lv : List (Nat × Value)) (i : Nat) : Option Value := match lv with
  | [] => none
  | q :: t => if q.1 = i then some q.2 else aj_get t i
def aj_st1 (lv : List (Nat × Value)) (i : Nat) (v : Value) : List (Nat × Value) := (i, v) :: lv.filter (fun q => !(q.1 == i) && !(q.1 + 1 == i && q.2.category == 2))
def aj_st2 (lv : List (Nat × Value)) (i : Nat) (v : Value) : List (Nat × Value) := (i, v) :: lv.filter (fun q => !(q.1 == i) && (!(q.1 == i + 1) && !(q.1 + 1 == i && q.2.category == 2)))
theorem aj_get_at {lv : List (Nat × Value)} {i : Nat} {v : Value} (h : aj_get lv i = some v) : ∃ k : Nat, lv[k]? = some (i, v) := by
  induction lv with
  | nil => cases h
  | cons q t ih =>
    unfold aj_get at h
    by_cases hq : q.1 = i
    · rw [if_pos hq] at h
      refine ⟨0, ?_⟩
      cases h
      rw [← hq]
      rfl
    · rw [if_neg hq] at h
      obtain ⟨k, hk⟩ := ih h
      exact ⟨k + 1, hk⟩
theorem aj_get_has {ls : Array Slot} {nL : Nat} {lv : List (Nat × Value)} (h : lv_has ls nL lv) {i : Nat} {v : Value} (hv : aj_get lv i = some v) : ls[i]? = some (.val v) := by
  obtain ⟨k, hk⟩ := aj_get_at hv
  exact lv_at h k hk
/-- fewer locals are known -/
theorem j_lv {Γ : aj_G} {nL : Nat} {k : Nat × Nat} {pc : Nat} {lv : List (Nat × Value)} (lv' : List (Nat × Value)) {st : List Value} {w : aw_W} (hs : lv'.map (fun q => aj_get lv q.1) = lv'.map (fun q => some q.2)) (h : aj_J Γ nL k pc lv' st w) : aj_J Γ nL k pc lv st w := by
  intro ls H locs h1 h2 h3 h4
  refine h ls H locs ⟨h1.1, h1.2.1, fun q hq => ?_⟩ h2 h3 h4
  have h5 := List.map_inj_left.mp hs q hq
  exact aj_get_has h1 h5
/-- more room is counted -/
theorem j_wide {Γ : aj_G} {nL : Nat} {k : Nat × Nat} {pc : Nat} {lv : List (Nat × Value)} {st : List Value} {w : aw_W} (k' : Nat × Nat) (h1 : k.1 ≤ k'.1) (h2 : k.2 ≤ k'.2) (h : aj_J Γ nL k' pc lv st w) : aj_J Γ nL k pc lv st w :=
  fun ls H locs q1 q2 q3 q4 => W.widen h1 h2 (h ls H locs q1 q2 q3 q4)
def aj_ushr (x y : Int32) : Int32 := (x.toUInt32 >>> (y.toUInt32 &&& Int32.toUInt32 31)).toInt32
def aj_lushr (x : Int64) (y : Int32) : Int64 := (x.toUInt64 >>> (y.toInt64.toUInt64 &&& Int64.toUInt64 63)).toInt64
def aj_lshl (x : Int64) (y : Int32) : Int64 := x <<< (y.toInt64 &&& 63)
def aj_lshr (x : Int64) (y : Int32) : Int64 := x >>> (y.toInt64 &&& 63)
end
section
theorem j_iconst {Γ : aj_G} {ym : MethodName} {cc : ByteArray} {nL : Nat} {ret : Option FieldType} {rm : Room} {k : Nat × Nat} {pc : Nat} {lv : List (Nat × Value)} {st : List Value} {w : aw_W} {n : Int} {v : Int32} (G : aj_ok Γ ym cc nL ret rm) (d : decode cc pc = .ok (.iconst n, 1)) (hv : Int32.ofInt n = v) (h : aj_J Γ nL k (pc + 1) (lv) (.int v :: st) w) : aj_J Γ nL k (pc) (lv) (st) w := fun ls H locs h1 h2 h3 h4 => lv_iconst G.1 G.2.1 d hv (h ls H locs h1 h2 h3 h4)
theorem j_bipush {Γ : aj_G} {ym : MethodName} {cc : ByteArray} {nL : Nat} {ret : Option FieldType} {rm : Room} {k : Nat × Nat} {pc : Nat} {lv : List (Nat × Value)} {st : List Value} {w : aw_W} {n : Int} {v : Int32} (G : aj_ok Γ ym cc nL ret rm) (d : decode cc pc = .ok (.bipush n, 2)) (hv : (Int8.ofInt n).toInt32 = v) (h : aj_J Γ nL k (pc + 2) (lv) (.int v :: st) w) : aj_J Γ nL k (pc) (lv) (st) w := fun ls H locs h1 h2 h3 h4 => lv_bipush G.1 G.2.1 d hv (h ls H locs h1 h2 h3 h4)
theorem j_sipush {Γ : aj_G} {ym : MethodName} {cc : ByteArray} {nL : Nat} {ret : Option FieldType} {rm : Room} {k : Nat × Nat} {pc : Nat} {lv : List (Nat × Value)} {st : List Value} {w : aw_W} {n : Int} {v : Int32} (G : aj_ok Γ ym cc nL ret rm) (d : decode cc pc = .ok (.sipush n, 3)) (hv : (Int16.ofInt n).toInt32 = v) (h : aj_J Γ nL k (pc + 3) (lv) (.int v :: st) w) : aj_J Γ nL k (pc) (lv) (st) w := fun ls H locs h1 h2 h3 h4 => lv_sipush G.1 G.2.1 d hv (h ls H locs h1 h2 h3 h4)
theorem j_lconst {Γ : aj_G} {ym : MethodName} {cc : ByteArray} {nL : Nat} {ret : Option FieldType} {rm : Room} {k : Nat × Nat} {pc : Nat} {lv : List (Nat × Value)} {st : List Value} {w : aw_W} {n : Fin 2} {v : Int64} (G : aj_ok Γ ym cc nL ret rm) (d : decode cc pc = .ok (.lconst n, 1)) (hv : Int64.ofNat (n : Nat) = v) (h : aj_J Γ nL k (pc + 1) (lv) (.long v :: st) w) : aj_J Γ nL k (pc) (lv) (st) w := fun ls H locs h1 h2 h3 h4 => lv_lconst G.1 G.2.1 d hv (h ls H locs h1 h2 h3 h4)
theorem j_null {Γ : aj_G} {ym : MethodName} {cc : ByteArray} {nL : Nat} {ret : Option FieldType} {rm : Room} {k : Nat × Nat} {pc : Nat} {lv : List (Nat × Value)} {st : List Value} {w : aw_W} (G : aj_ok Γ ym cc nL ret rm) (d : decode cc pc = .ok (.aconst_null, 1)) (h : aj_J Γ nL k (pc + 1) (lv) (va_rf none :: st) w) : aj_J Γ nL k (pc) (lv) (st) w := fun ls H locs h1 h2 h3 h4 => lv_null G.1 G.2.1 d (h ls H locs h1 h2 h3 h4)
theorem j_ldc {Γ : aj_G} {ym : MethodName} {cc : ByteArray} {nL : Nat} {ret : Option FieldType} {rm : Room} {k : Nat × Nat} {pc : Nat} {lv : List (Nat × Value)} {st : List Value} {w : aw_W} {index : Nat} {v : Int32} (G : aj_ok Γ ym cc nL ret rm) (d : decode cc pc = .ok (.ldc index, 2)) (hw : Cond.constant ym.cls index v ∈ aw_ws) (h : aj_J Γ nL k (pc + 2) (lv) (.int v :: st) w) : aj_J Γ nL k (pc) (lv) (st) w := fun ls H locs h1 h2 h3 h4 => lv_ldc G.1 G.2.1 G.own (G.word hw) d (h ls H locs h1 h2 h3 h4)
theorem j_ldc2 {Γ : aj_G} {ym : MethodName} {cc : ByteArray} {nL : Nat} {ret : Option FieldType} {rm : Room} {k : Nat × Nat} {pc : Nat} {lv : List (Nat × Value)} {st : List Value} {w : aw_W} {index : Nat} {v : Int64} (G : aj_ok Γ ym cc nL ret rm) (d : decode cc pc = .ok (.ldc2_w index, 3)) (hw : Cond.constantLong ym.cls index v ∈ aw_ws) (h : aj_J Γ nL k (pc + 3) (lv) (.long v :: st) w) : aj_J Γ nL k (pc) (lv) (st) w := fun ls H locs h1 h2 h3 h4 => lv_ldc2 G.1 G.2.1 G.own (G.word hw) d (h ls H locs h1 h2 h3 h4)
theorem j_iload {Γ : aj_G} {ym : MethodName} {cc : ByteArray} {nL : Nat} {ret : Option FieldType} {rm : Room} {k : Nat × Nat} {pc : Nat} {lv : List (Nat × Value)} {st : List Value} {w : aw_W} {i : Nat} {x : Int32} (G : aj_ok Γ ym cc nL ret rm) (d : decode cc pc = .ok (.iload i, 2)) (hx : aj_get lv i = some (.int x)) (h : aj_J Γ nL k (pc + 2) (lv) (.int x :: st) w) : aj_J Γ nL k (pc) (lv) (st) w := fun ls H locs h1 h2 h3 h4 => lv_iload G.1 G.2.1 d (aj_get_has h1 hx) (h ls H locs h1 h2 h3 h4)
theorem j_iload_n {Γ : aj_G} {ym : MethodName} {cc : ByteArray} {nL : Nat} {ret : Option FieldType} {rm : Room} {k : Nat × Nat} {pc : Nat} {lv : List (Nat × Value)} {st : List Value} {w : aw_W} {i : Fin 4} {x : Int32} (G : aj_ok Γ ym cc nL ret rm) (d : decode cc pc = .ok (.iload_n i, 1)) (hx : aj_get lv i.val = some (.int x)) (h : aj_J Γ nL k (pc + 1) (lv) (.int x :: st) w) : aj_J Γ nL k (pc) (lv) (st) w := fun ls H locs h1 h2 h3 h4 => lv_iload_n G.1 G.2.1 d rfl (aj_get_has h1 hx) (h ls H locs h1 h2 h3 h4)
theorem j_lload {Γ : aj_G} {ym : MethodName} {cc : ByteArray} {nL : Nat} {ret : Option FieldType} {rm : Room} {k : Nat × Nat} {pc : Nat} {lv : List (Nat × Value)} {st : List Value} {w : aw_W} {i : Nat} {x : Int64} (G : aj_ok Γ ym cc nL ret rm) (d : decode cc pc = .ok (.lload i, 2)) (hx : aj_get lv i = some (.long x)) (h : aj_J Γ nL k (pc + 2) (lv) (.long x :: st) w) : aj_J Γ nL k (pc) (lv) (st) w := fun ls H locs h1 h2 h3 h4 => lv_lload G.1 G.2.1 d (aj_get_has h1 hx) (h ls H locs h1 h2 h3 h4)
theorem j_lload_n {Γ : aj_G} {ym : MethodName} {cc : ByteArray} {nL : Nat} {ret : Option FieldType} {rm : Room} {k : Nat × Nat} {pc : Nat} {lv : List (Nat × Value)} {st : List Value} {w : aw_W} {i : Fin 4} {x : Int64} (G : aj_ok Γ ym cc nL ret rm) (d : decode cc pc = .ok (.lload_n i, 1)) (hx : aj_get lv i.val = some (.long x)) (h : aj_J Γ nL k (pc + 1) (lv) (.long x :: st) w) : aj_J Γ nL k (pc) (lv) (st) w := fun ls H locs h1 h2 h3 h4 => lv_lload_n G.1 G.2.1 d rfl (aj_get_has h1 hx) (h ls H locs h1 h2 h3 h4)
theorem j_aload {Γ : aj_G} {ym : MethodName} {cc : ByteArray} {nL : Nat} {ret : Option FieldType} {rm : Room} {k : Nat × Nat} {pc : Nat} {lv : List (Nat × Value)} {st : List Value} {w : aw_W} {i : Nat} {r : Option Nat} (G : aj_ok Γ ym cc nL ret rm) (d : decode cc pc = .ok (.aload i, 2)) (hx : aj_get lv i = some (va_rf r)) (h : aj_J Γ nL k (pc + 2) (lv) (va_rf r :: st) w) : aj_J Γ nL k (pc) (lv) (st) w := by
  intro ls H locs h1 h2 h3 h4
  have hg := aj_get_has h1 hx
  have hh := h ls H locs h1 h2 h3 h4
  cases r with
  | none => exact lv_aloadN G.1 G.2.1 d hg hh
  | some a => exact lv_aload G.1 G.2.1 d hg hh
theorem j_aload_n {Γ : aj_G} {ym : MethodName} {cc : ByteArray} {nL : Nat} {ret : Option FieldType} {rm : Room} {k : Nat × Nat} {pc : Nat} {lv : List (Nat × Value)} {st : List Value} {w : aw_W} {i : Fin 4} {r : Option Nat} (G : aj_ok Γ ym cc nL ret rm) (d : decode cc pc = .ok (.aload_n i, 1)) (hx : aj_get lv i.val = some (va_rf r)) (h : aj_J Γ nL k (pc + 1) (lv) (va_rf r :: st) w) : aj_J Γ nL k (pc) (lv) (st) w := by
  intro ls H locs h1 h2 h3 h4
  have hg := aj_get_has h1 hx
  have hh := h ls H locs h1 h2 h3 h4
  cases r with
  | none => exact lv_aload_nN G.1 G.2.1 d rfl hg hh
  | some a => exact lv_aload_n G.1 G.2.1 d rfl hg hh
theorem j_istore {Γ : aj_G} {ym : MethodName} {cc : ByteArray} {nL : Nat} {ret : Option FieldType} {rm : Room} {k : Nat × Nat} {pc : Nat} {lv : List (Nat × Value)} {st : List Value} {w : aw_W} {i : Nat} {x : Int32} (G : aj_ok Γ ym cc nL ret rm) (d : decode cc pc = .ok (.istore i, 2)) (hn : i < nL) (h : aj_J Γ nL k (pc + 2) (aj_st1 lv i (.int x)) (st) w) : aj_J Γ nL k (pc) (lv) (.int x :: st) w := fun ls H locs h1 h2 h3 h4 => lv_istore G.1 G.2.1 d h1 hn rfl (fun ls' h1' => h ls' H locs h1' h2 h3 h4)
theorem j_istore_n {Γ : aj_G} {ym : MethodName} {cc : ByteArray} {nL : Nat} {ret : Option FieldType} {rm : Room} {k : Nat × Nat} {pc : Nat} {lv : List (Nat × Value)} {st : List Value} {w : aw_W} {i : Fin 4} {x : Int32} (G : aj_ok Γ ym cc nL ret rm) (d : decode cc pc = .ok (.istore_n i, 1)) (hn : i.val < nL) (h : aj_J Γ nL k (pc + 1) (aj_st1 lv i.val (.int x)) (st) w) : aj_J Γ nL k (pc) (lv) (.int x :: st) w := fun ls H locs h1 h2 h3 h4 => lv_istore_n G.1 G.2.1 d rfl h1 hn rfl (fun ls' h1' => h ls' H locs h1' h2 h3 h4)
theorem j_lstore {Γ : aj_G} {ym : MethodName} {cc : ByteArray} {nL : Nat} {ret : Option FieldType} {rm : Room} {k : Nat × Nat} {pc : Nat} {lv : List (Nat × Value)} {st : List Value} {w : aw_W} {i : Nat} {x : Int64} (G : aj_ok Γ ym cc nL ret rm) (d : decode cc pc = .ok (.lstore i, 2)) (hn : i + 1 < nL) (h : aj_J Γ nL k (pc + 2) (aj_st2 lv i (.long x)) (st) w) : aj_J Γ nL k (pc) (lv) (.long x :: st) w := fun ls H locs h1 h2 h3 h4 => lv_lstore G.1 G.2.1 d h1 hn rfl (fun ls' h1' => h ls' H locs h1' h2 h3 h4)
theorem j_lstore_n {Γ : aj_G} {ym : MethodName} {cc : ByteArray} {nL : Nat} {ret : Option FieldType} {rm : Room} {k : Nat × Nat} {pc : Nat} {lv : List (Nat × Value)} {st : List Value} {w : aw_W} {i : Fin 4} {x : Int64} (G : aj_ok Γ ym cc nL ret rm) (d : decode cc pc = .ok (.lstore_n i, 1)) (hn : i.val + 1 < nL) (h : aj_J Γ nL k (pc + 1) (aj_st2 lv i.val (.long x)) (st) w) : aj_J Γ nL k (pc) (lv) (.long x :: st) w := fun ls H locs h1 h2 h3 h4 => lv_lstore_n G.1 G.2.1 d rfl h1 hn rfl (fun ls' h1' => h ls' H locs h1' h2 h3 h4)
theorem j_astore {Γ : aj_G} {ym : MethodName} {cc : ByteArray} {nL : Nat} {ret : Option FieldType} {rm : Room} {k : Nat × Nat} {pc : Nat} {lv : List (Nat × Value)} {st : List Value} {w : aw_W} {i : Nat} {r : Option Nat} (G : aj_ok Γ ym cc nL ret rm) (d : decode cc pc = .ok (.astore i, 2)) (hn : i < nL) (h : aj_J Γ nL k (pc + 2) (aj_st1 lv i (va_rf r)) (st) w) : aj_J Γ nL k (pc) (lv) (va_rf r :: st) w := by
  intro ls H locs h1 h2 h3 h4
  cases r with
  | none => exact lv_astoreN G.1 G.2.1 d h1 hn rfl (fun ls' h1' => h ls' H locs h1' h2 h3 h4)
  | some a => exact lv_astore G.1 G.2.1 d h1 hn rfl (fun ls' h1' => h ls' H locs h1' h2 h3 h4)
theorem j_astore_n {Γ : aj_G} {ym : MethodName} {cc : ByteArray} {nL : Nat} {ret : Option FieldType} {rm : Room} {k : Nat × Nat} {pc : Nat} {lv : List (Nat × Value)} {st : List Value} {w : aw_W} {i : Fin 4} {r : Option Nat} (G : aj_ok Γ ym cc nL ret rm) (d : decode cc pc = .ok (.astore_n i, 1)) (hn : i.val < nL) (h : aj_J Γ nL k (pc + 1) (aj_st1 lv i.val (va_rf r)) (st) w) : aj_J Γ nL k (pc) (lv) (va_rf r :: st) w := by
  intro ls H locs h1 h2 h3 h4
  cases r with
  | none => exact lv_astore_nN G.1 G.2.1 d rfl h1 hn rfl (fun ls' h1' => h ls' H locs h1' h2 h3 h4)
  | some a => exact lv_astore_n G.1 G.2.1 d rfl h1 hn rfl (fun ls' h1' => h ls' H locs h1' h2 h3 h4)
theorem j_iinc {Γ : aj_G} {ym : MethodName} {cc : ByteArray} {nL : Nat} {ret : Option FieldType} {rm : Room} {k : Nat × Nat} {pc : Nat} {lv : List (Nat × Value)} {st : List Value} {w : aw_W} {i : Nat} {n : Int} {x v : Int32} (G : aj_ok Γ ym cc nL ret rm) (d : decode cc pc = .ok (.iinc i n, 3)) (hx : aj_get lv i = some (.int x)) (hv : x + Int32.ofInt n = v) (hn : i < nL) (h : aj_J Γ nL k (pc + 3) (aj_st1 lv i (.int v)) (st) w) : aj_J Γ nL k (pc) (lv) (st) w := by
  intro ls H locs h1 h2 h3 h4
  obtain ⟨j, hj⟩ := aj_get_at hx
  exact lv_iinc G.1 G.2.1 d h1 hj hv hn rfl (fun ls' h1' => h ls' H locs h1' h2 h3 h4)
theorem j_iadd {Γ : aj_G} {ym : MethodName} {cc : ByteArray} {nL : Nat} {ret : Option FieldType} {rm : Room} {k : Nat × Nat} {pc : Nat} {lv : List (Nat × Value)} {st : List Value} {w : aw_W} {x y : Int32} (G : aj_ok Γ ym cc nL ret rm) (d : decode cc pc = .ok (.iadd, 1))  (h : aj_J Γ nL k (pc + 1) (lv) (.int (x + y) :: st) w) : aj_J Γ nL k (pc) (lv) (.int y :: .int x :: st) w := fun ls H locs h1 h2 h3 h4 => lv_iadd G.1 G.2.1 d  (h ls H locs h1 h2 h3 h4)
theorem j_isub {Γ : aj_G} {ym : MethodName} {cc : ByteArray} {nL : Nat} {ret : Option FieldType} {rm : Room} {k : Nat × Nat} {pc : Nat} {lv : List (Nat × Value)} {st : List Value} {w : aw_W} {x y : Int32} (G : aj_ok Γ ym cc nL ret rm) (d : decode cc pc = .ok (.isub, 1))  (h : aj_J Γ nL k (pc + 1) (lv) (.int (x - y) :: st) w) : aj_J Γ nL k (pc) (lv) (.int y :: .int x :: st) w := fun ls H locs h1 h2 h3 h4 => lv_isub G.1 G.2.1 d  (h ls H locs h1 h2 h3 h4)
theorem j_imul {Γ : aj_G} {ym : MethodName} {cc : ByteArray} {nL : Nat} {ret : Option FieldType} {rm : Room} {k : Nat × Nat} {pc : Nat} {lv : List (Nat × Value)} {st : List Value} {w : aw_W} {x y : Int32} (G : aj_ok Γ ym cc nL ret rm) (d : decode cc pc = .ok (.imul, 1))  (h : aj_J Γ nL k (pc + 1) (lv) (.int (x * y) :: st) w) : aj_J Γ nL k (pc) (lv) (.int y :: .int x :: st) w := fun ls H locs h1 h2 h3 h4 => lv_imul G.1 G.2.1 d  (h ls H locs h1 h2 h3 h4)
theorem j_iand {Γ : aj_G} {ym : MethodName} {cc : ByteArray} {nL : Nat} {ret : Option FieldType} {rm : Room} {k : Nat × Nat} {pc : Nat} {lv : List (Nat × Value)} {st : List Value} {w : aw_W} {x y : Int32} (G : aj_ok Γ ym cc nL ret rm) (d : decode cc pc = .ok (.iand, 1))  (h : aj_J Γ nL k (pc + 1) (lv) (.int (x &&& y) :: st) w) : aj_J Γ nL k (pc) (lv) (.int y :: .int x :: st) w := fun ls H locs h1 h2 h3 h4 => lv_iand G.1 G.2.1 d  (h ls H locs h1 h2 h3 h4)
theorem j_ior {Γ : aj_G} {ym : MethodName} {cc : ByteArray} {nL : Nat} {ret : Option FieldType} {rm : Room} {k : Nat × Nat} {pc : Nat} {lv : List (Nat × Value)} {st : List Value} {w : aw_W} {x y : Int32} (G : aj_ok Γ ym cc nL ret rm) (d : decode cc pc = .ok (.ior, 1))  (h : aj_J Γ nL k (pc + 1) (lv) (.int (x ||| y) :: st) w) : aj_J Γ nL k (pc) (lv) (.int y :: .int x :: st) w := fun ls H locs h1 h2 h3 h4 => lv_ior G.1 G.2.1 d  (h ls H locs h1 h2 h3 h4)
theorem j_ixor {Γ : aj_G} {ym : MethodName} {cc : ByteArray} {nL : Nat} {ret : Option FieldType} {rm : Room} {k : Nat × Nat} {pc : Nat} {lv : List (Nat × Value)} {st : List Value} {w : aw_W} {x y : Int32} (G : aj_ok Γ ym cc nL ret rm) (d : decode cc pc = .ok (.ixor, 1))  (h : aj_J Γ nL k (pc + 1) (lv) (.int (x ^^^ y) :: st) w) : aj_J Γ nL k (pc) (lv) (.int y :: .int x :: st) w := fun ls H locs h1 h2 h3 h4 => lv_ixor G.1 G.2.1 d  (h ls H locs h1 h2 h3 h4)
theorem j_ishl {Γ : aj_G} {ym : MethodName} {cc : ByteArray} {nL : Nat} {ret : Option FieldType} {rm : Room} {k : Nat × Nat} {pc : Nat} {lv : List (Nat × Value)} {st : List Value} {w : aw_W} {x y : Int32} (G : aj_ok Γ ym cc nL ret rm) (d : decode cc pc = .ok (.ishl, 1))  (h : aj_J Γ nL k (pc + 1) (lv) (.int (x <<< (y &&& 31)) :: st) w) : aj_J Γ nL k (pc) (lv) (.int y :: .int x :: st) w := fun ls H locs h1 h2 h3 h4 => lv_ishl G.1 G.2.1 d  (h ls H locs h1 h2 h3 h4)
theorem j_ishr {Γ : aj_G} {ym : MethodName} {cc : ByteArray} {nL : Nat} {ret : Option FieldType} {rm : Room} {k : Nat × Nat} {pc : Nat} {lv : List (Nat × Value)} {st : List Value} {w : aw_W} {x y : Int32} (G : aj_ok Γ ym cc nL ret rm) (d : decode cc pc = .ok (.ishr, 1))  (h : aj_J Γ nL k (pc + 1) (lv) (.int (x >>> (y &&& 31)) :: st) w) : aj_J Γ nL k (pc) (lv) (.int y :: .int x :: st) w := fun ls H locs h1 h2 h3 h4 => lv_ishr G.1 G.2.1 d  (h ls H locs h1 h2 h3 h4)
theorem j_idiv {Γ : aj_G} {ym : MethodName} {cc : ByteArray} {nL : Nat} {ret : Option FieldType} {rm : Room} {k : Nat × Nat} {pc : Nat} {lv : List (Nat × Value)} {st : List Value} {w : aw_W} {x y : Int32} (G : aj_ok Γ ym cc nL ret rm) (d : decode cc pc = .ok (.idiv, 1)) (hne : ¬ y = 0) (h : aj_J Γ nL k (pc + 1) (lv) (.int (x / y) :: st) w) : aj_J Γ nL k (pc) (lv) (.int y :: .int x :: st) w := fun ls H locs h1 h2 h3 h4 => lv_idiv G.1 G.2.1 d hne (h ls H locs h1 h2 h3 h4)
theorem j_irem {Γ : aj_G} {ym : MethodName} {cc : ByteArray} {nL : Nat} {ret : Option FieldType} {rm : Room} {k : Nat × Nat} {pc : Nat} {lv : List (Nat × Value)} {st : List Value} {w : aw_W} {x y : Int32} (G : aj_ok Γ ym cc nL ret rm) (d : decode cc pc = .ok (.irem, 1)) (hne : ¬ y = 0) (h : aj_J Γ nL k (pc + 1) (lv) (.int (x - x / y * y) :: st) w) : aj_J Γ nL k (pc) (lv) (.int y :: .int x :: st) w := fun ls H locs h1 h2 h3 h4 => lv_irem G.1 G.2.1 d hne (h ls H locs h1 h2 h3 h4)
theorem j_ladd {Γ : aj_G} {ym : MethodName} {cc : ByteArray} {nL : Nat} {ret : Option FieldType} {rm : Room} {k : Nat × Nat} {pc : Nat} {lv : List (Nat × Value)} {st : List Value} {w : aw_W} {x y : Int64} (G : aj_ok Γ ym cc nL ret rm) (d : decode cc pc = .ok (.ladd, 1))  (h : aj_J Γ nL k (pc + 1) (lv) (.long (x + y) :: st) w) : aj_J Γ nL k (pc) (lv) (.long y :: .long x :: st) w := fun ls H locs h1 h2 h3 h4 => lv_ladd G.1 G.2.1 d  (h ls H locs h1 h2 h3 h4)
theorem j_lsub {Γ : aj_G} {ym : MethodName} {cc : ByteArray} {nL : Nat} {ret : Option FieldType} {rm : Room} {k : Nat × Nat} {pc : Nat} {lv : List (Nat × Value)} {st : List Value} {w : aw_W} {x y : Int64} (G : aj_ok Γ ym cc nL ret rm) (d : decode cc pc = .ok (.lsub, 1))  (h : aj_J Γ nL k (pc + 1) (lv) (.long (x - y) :: st) w) : aj_J Γ nL k (pc) (lv) (.long y :: .long x :: st) w := fun ls H locs h1 h2 h3 h4 => lv_lsub G.1 G.2.1 d  (h ls H locs h1 h2 h3 h4)
theorem j_lmul {Γ : aj_G} {ym : MethodName} {cc : ByteArray} {nL : Nat} {ret : Option FieldType} {rm : Room} {k : Nat × Nat} {pc : Nat} {lv : List (Nat × Value)} {st : List Value} {w : aw_W} {x y : Int64} (G : aj_ok Γ ym cc nL ret rm) (d : decode cc pc = .ok (.lmul, 1))  (h : aj_J Γ nL k (pc + 1) (lv) (.long (x * y) :: st) w) : aj_J Γ nL k (pc) (lv) (.long y :: .long x :: st) w := fun ls H locs h1 h2 h3 h4 => lv_lmul G.1 G.2.1 d  (h ls H locs h1 h2 h3 h4)
theorem j_land {Γ : aj_G} {ym : MethodName} {cc : ByteArray} {nL : Nat} {ret : Option FieldType} {rm : Room} {k : Nat × Nat} {pc : Nat} {lv : List (Nat × Value)} {st : List Value} {w : aw_W} {x y : Int64} (G : aj_ok Γ ym cc nL ret rm) (d : decode cc pc = .ok (.land, 1))  (h : aj_J Γ nL k (pc + 1) (lv) (.long (x &&& y) :: st) w) : aj_J Γ nL k (pc) (lv) (.long y :: .long x :: st) w := fun ls H locs h1 h2 h3 h4 => lv_land G.1 G.2.1 d  (h ls H locs h1 h2 h3 h4)
theorem j_lor {Γ : aj_G} {ym : MethodName} {cc : ByteArray} {nL : Nat} {ret : Option FieldType} {rm : Room} {k : Nat × Nat} {pc : Nat} {lv : List (Nat × Value)} {st : List Value} {w : aw_W} {x y : Int64} (G : aj_ok Γ ym cc nL ret rm) (d : decode cc pc = .ok (.lor, 1))  (h : aj_J Γ nL k (pc + 1) (lv) (.long (x ||| y) :: st) w) : aj_J Γ nL k (pc) (lv) (.long y :: .long x :: st) w := fun ls H locs h1 h2 h3 h4 => lv_lor G.1 G.2.1 d  (h ls H locs h1 h2 h3 h4)
theorem j_lxor {Γ : aj_G} {ym : MethodName} {cc : ByteArray} {nL : Nat} {ret : Option FieldType} {rm : Room} {k : Nat × Nat} {pc : Nat} {lv : List (Nat × Value)} {st : List Value} {w : aw_W} {x y : Int64} (G : aj_ok Γ ym cc nL ret rm) (d : decode cc pc = .ok (.lxor, 1))  (h : aj_J Γ nL k (pc + 1) (lv) (.long (x ^^^ y) :: st) w) : aj_J Γ nL k (pc) (lv) (.long y :: .long x :: st) w := fun ls H locs h1 h2 h3 h4 => lv_lxor G.1 G.2.1 d  (h ls H locs h1 h2 h3 h4)
theorem j_ineg {Γ : aj_G} {ym : MethodName} {cc : ByteArray} {nL : Nat} {ret : Option FieldType} {rm : Room} {k : Nat × Nat} {pc : Nat} {lv : List (Nat × Value)} {st : List Value} {w : aw_W} {x : Int32} (G : aj_ok Γ ym cc nL ret rm) (d : decode cc pc = .ok (.ineg, 1))  (h : aj_J Γ nL k (pc + 1) (lv) (.int (-x) :: st) w) : aj_J Γ nL k (pc) (lv) (.int x :: st) w := fun ls H locs h1 h2 h3 h4 => lv_ineg G.1 G.2.1 d  (h ls H locs h1 h2 h3 h4)
theorem j_iushr {Γ : aj_G} {ym : MethodName} {cc : ByteArray} {nL : Nat} {ret : Option FieldType} {rm : Room} {k : Nat × Nat} {pc : Nat} {lv : List (Nat × Value)} {st : List Value} {w : aw_W} {x y : Int32} (G : aj_ok Γ ym cc nL ret rm) (d : decode cc pc = .ok (.iushr, 1))  (h : aj_J Γ nL k (pc + 1) (lv) (.int (aj_ushr x y) :: st) w) : aj_J Γ nL k (pc) (lv) (.int y :: .int x :: st) w := fun ls H locs h1 h2 h3 h4 => lv_iushr G.1 G.2.1 d rfl (h ls H locs h1 h2 h3 h4)
theorem j_lushr {Γ : aj_G} {ym : MethodName} {cc : ByteArray} {nL : Nat} {ret : Option FieldType} {rm : Room} {k : Nat × Nat} {pc : Nat} {lv : List (Nat × Value)} {st : List Value} {w : aw_W} {x : Int64} {y : Int32} (G : aj_ok Γ ym cc nL ret rm) (d : decode cc pc = .ok (.lushr, 1))  (h : aj_J Γ nL k (pc + 1) (lv) (.long (aj_lushr x y) :: st) w) : aj_J Γ nL k (pc) (lv) (.int y :: .long x :: st) w := fun ls H locs h1 h2 h3 h4 => lv_lushr G.1 G.2.1 d rfl (h ls H locs h1 h2 h3 h4)
theorem j_lshl {Γ : aj_G} {ym : MethodName} {cc : ByteArray} {nL : Nat} {ret : Option FieldType} {rm : Room} {k : Nat × Nat} {pc : Nat} {lv : List (Nat × Value)} {st : List Value} {w : aw_W} {x : Int64} {y : Int32} (G : aj_ok Γ ym cc nL ret rm) (d : decode cc pc = .ok (.lshl, 1))  (h : aj_J Γ nL k (pc + 1) (lv) (.long (aj_lshl x y) :: st) w) : aj_J Γ nL k (pc) (lv) (.int y :: .long x :: st) w := fun ls H locs h1 h2 h3 h4 => lv_lshl G.1 G.2.1 d rfl (h ls H locs h1 h2 h3 h4)
theorem j_lshr {Γ : aj_G} {ym : MethodName} {cc : ByteArray} {nL : Nat} {ret : Option FieldType} {rm : Room} {k : Nat × Nat} {pc : Nat} {lv : List (Nat × Value)} {st : List Value} {w : aw_W} {x : Int64} {y : Int32} (G : aj_ok Γ ym cc nL ret rm) (d : decode cc pc = .ok (.lshr, 1))  (h : aj_J Γ nL k (pc + 1) (lv) (.long (aj_lshr x y) :: st) w) : aj_J Γ nL k (pc) (lv) (.int y :: .long x :: st) w := fun ls H locs h1 h2 h3 h4 => lv_lshr G.1 G.2.1 d rfl (h ls H locs h1 h2 h3 h4)
theorem j_i2l {Γ : aj_G} {ym : MethodName} {cc : ByteArray} {nL : Nat} {ret : Option FieldType} {rm : Room} {k : Nat × Nat} {pc : Nat} {lv : List (Nat × Value)} {st : List Value} {w : aw_W} {x : Int32} (G : aj_ok Γ ym cc nL ret rm) (d : decode cc pc = .ok (.i2l, 1))  (h : aj_J Γ nL k (pc + 1) (lv) (.long x.toInt64 :: st) w) : aj_J Γ nL k (pc) (lv) (.int x :: st) w := fun ls H locs h1 h2 h3 h4 => lv_i2l G.1 G.2.1 d rfl (h ls H locs h1 h2 h3 h4)
theorem j_l2i {Γ : aj_G} {ym : MethodName} {cc : ByteArray} {nL : Nat} {ret : Option FieldType} {rm : Room} {k : Nat × Nat} {pc : Nat} {lv : List (Nat × Value)} {st : List Value} {w : aw_W} {x : Int64} (G : aj_ok Γ ym cc nL ret rm) (d : decode cc pc = .ok (.l2i, 1))  (h : aj_J Γ nL k (pc + 1) (lv) (.int x.toInt32 :: st) w) : aj_J Γ nL k (pc) (lv) (.long x :: st) w := fun ls H locs h1 h2 h3 h4 => lv_l2i G.1 G.2.1 d rfl (h ls H locs h1 h2 h3 h4)
theorem j_i2b {Γ : aj_G} {ym : MethodName} {cc : ByteArray} {nL : Nat} {ret : Option FieldType} {rm : Room} {k : Nat × Nat} {pc : Nat} {lv : List (Nat × Value)} {st : List Value} {w : aw_W} {x : Int32} (G : aj_ok Γ ym cc nL ret rm) (d : decode cc pc = .ok (.i2b, 1))  (h : aj_J Γ nL k (pc + 1) (lv) (.int x.toInt8.toInt32 :: st) w) : aj_J Γ nL k (pc) (lv) (.int x :: st) w := fun ls H locs h1 h2 h3 h4 => lv_i2b G.1 G.2.1 d rfl (h ls H locs h1 h2 h3 h4)
theorem j_lcmp {Γ : aj_G} {ym : MethodName} {cc : ByteArray} {nL : Nat} {ret : Option FieldType} {rm : Room} {k : Nat × Nat} {pc : Nat} {lv : List (Nat × Value)} {st : List Value} {w : aw_W} {x y : Int64} (G : aj_ok Γ ym cc nL ret rm) (d : decode cc pc = .ok (.lcmp, 1)) (h : aj_J Γ nL k (pc + 1) (lv) (.int (lg_cmp x y) :: st) w) : aj_J Γ nL k (pc) (lv) (.long y :: .long x :: st) w := fun ls H locs h1 h2 h3 h4 => W.lcmp G.1 G.2.1 d (h ls H locs h1 h2 h3 h4)
theorem j_dup {Γ : aj_G} {ym : MethodName} {cc : ByteArray} {nL : Nat} {ret : Option FieldType} {rm : Room} {k : Nat × Nat} {pc : Nat} {lv : List (Nat × Value)} {st : List Value} {w : aw_W} {va : Value} (G : aj_ok Γ ym cc nL ret rm) (d : decode cc pc = .ok (.dup, 1)) (hva : va.category = 1) (h : aj_J Γ nL k (pc + 1) (lv) (va :: va :: st) w) : aj_J Γ nL k (pc) (lv) (va :: st) w := fun ls H locs h1 h2 h3 h4 => lv_dup G.1 G.2.1 d hva (h ls H locs h1 h2 h3 h4)
theorem j_pop {Γ : aj_G} {ym : MethodName} {cc : ByteArray} {nL : Nat} {ret : Option FieldType} {rm : Room} {k : Nat × Nat} {pc : Nat} {lv : List (Nat × Value)} {st : List Value} {w : aw_W} {va : Value} (G : aj_ok Γ ym cc nL ret rm) (d : decode cc pc = .ok (.pop, 1)) (hva : va.category = 1) (h : aj_J Γ nL k (pc + 1) (lv) (st) w) : aj_J Γ nL k (pc) (lv) (va :: st) w := fun ls H locs h1 h2 h3 h4 => lv_pop G.1 G.2.1 d hva (h ls H locs h1 h2 h3 h4)
theorem j_dup_x1 {Γ : aj_G} {ym : MethodName} {cc : ByteArray} {nL : Nat} {ret : Option FieldType} {rm : Room} {k : Nat × Nat} {pc : Nat} {lv : List (Nat × Value)} {st : List Value} {w : aw_W} {va vb : Value} (G : aj_ok Γ ym cc nL ret rm) (d : decode cc pc = .ok (.dup_x1, 1)) (hva : va.category = 1) (hvb : vb.category = 1) (h : aj_J Γ nL k (pc + 1) (lv) (va :: vb :: va :: st) w) : aj_J Γ nL k (pc) (lv) (va :: vb :: st) w := fun ls H locs h1 h2 h3 h4 => lv_dup_x1 G.1 G.2.1 d hva hvb (h ls H locs h1 h2 h3 h4)
theorem j_dup_x2 {Γ : aj_G} {ym : MethodName} {cc : ByteArray} {nL : Nat} {ret : Option FieldType} {rm : Room} {k : Nat × Nat} {pc : Nat} {lv : List (Nat × Value)} {st : List Value} {w : aw_W} {va vb vd : Value} (G : aj_ok Γ ym cc nL ret rm) (d : decode cc pc = .ok (.dup_x2, 1)) (hva : va.category = 1) (hvb : vb.category = 1) (hvd : vd.category = 1) (h : aj_J Γ nL k (pc + 1) (lv) (va :: vb :: vd :: va :: st) w) : aj_J Γ nL k (pc) (lv) (va :: vb :: vd :: st) w := fun ls H locs h1 h2 h3 h4 => lv_dup_x2 G.1 G.2.1 d hva hvb hvd (h ls H locs h1 h2 h3 h4)
theorem j_dup2_11 {Γ : aj_G} {ym : MethodName} {cc : ByteArray} {nL : Nat} {ret : Option FieldType} {rm : Room} {k : Nat × Nat} {pc : Nat} {lv : List (Nat × Value)} {st : List Value} {w : aw_W} {va vb : Value} (G : aj_ok Γ ym cc nL ret rm) (d : decode cc pc = .ok (.dup2, 1)) (hva : va.category = 1) (hvb : vb.category = 1) (h : aj_J Γ nL k (pc + 1) (lv) (va :: vb :: va :: vb :: st) w) : aj_J Γ nL k (pc) (lv) (va :: vb :: st) w := fun ls H locs h1 h2 h3 h4 => lv_dup2_11 G.1 G.2.1 d hva hvb (h ls H locs h1 h2 h3 h4)
theorem j_dup2_2 {Γ : aj_G} {ym : MethodName} {cc : ByteArray} {nL : Nat} {ret : Option FieldType} {rm : Room} {k : Nat × Nat} {pc : Nat} {lv : List (Nat × Value)} {st : List Value} {w : aw_W} {va : Value} (G : aj_ok Γ ym cc nL ret rm) (d : decode cc pc = .ok (.dup2, 1)) (hva : va.category = 2) (h : aj_J Γ nL k (pc + 1) (lv) (va :: va :: st) w) : aj_J Γ nL k (pc) (lv) (va :: st) w := fun ls H locs h1 h2 h3 h4 => lv_dup2_2 G.1 G.2.1 d hva (h ls H locs h1 h2 h3 h4)
theorem j_pop2_2 {Γ : aj_G} {ym : MethodName} {cc : ByteArray} {nL : Nat} {ret : Option FieldType} {rm : Room} {k : Nat × Nat} {pc : Nat} {lv : List (Nat × Value)} {st : List Value} {w : aw_W} {va : Value} (G : aj_ok Γ ym cc nL ret rm) (d : decode cc pc = .ok (.pop2, 1)) (hva : va.category = 2) (h : aj_J Γ nL k (pc + 1) (lv) (st) w) : aj_J Γ nL k (pc) (lv) (va :: st) w := fun ls H locs h1 h2 h3 h4 => lv_pop2_2 G.1 G.2.1 d hva (h ls H locs h1 h2 h3 h4)
theorem j_if_eq {Γ : aj_G} {ym : MethodName} {cc : ByteArray} {nL : Nat} {ret : Option FieldType} {rm : Room} {k : Nat × Nat} {pc : Nat} {lv : List (Nat × Value)} {st : List Value} {w : aw_W} {x : Int32} {off : Int} {tgt : Nat} (G : aj_ok Γ ym cc nL ret rm) (d : decode cc pc = .ok (.ifCond .eq off, 3)) (ht : (pc : Int) + off = (tgt : Int)) (kt : x = 0 → aj_J Γ nL k (tgt) (lv) (st) w) (kf : ¬ x = 0 → aj_J Γ nL k (pc + 3) (lv) (st) w) : aj_J Γ nL k (pc) (lv) (.int x :: st) w := fun ls H locs h1 h2 h3 h4 => lv_if_eq G.1 G.2.1 d ht (fun q => kt q ls H locs h1 h2 h3 h4) (fun q => kf q ls H locs h1 h2 h3 h4)
theorem j_if_lt {Γ : aj_G} {ym : MethodName} {cc : ByteArray} {nL : Nat} {ret : Option FieldType} {rm : Room} {k : Nat × Nat} {pc : Nat} {lv : List (Nat × Value)} {st : List Value} {w : aw_W} {x : Int32} {off : Int} {tgt : Nat} (G : aj_ok Γ ym cc nL ret rm) (d : decode cc pc = .ok (.ifCond .lt off, 3)) (ht : (pc : Int) + off = (tgt : Int)) (kt : x < 0 → aj_J Γ nL k (tgt) (lv) (st) w) (kf : ¬ x < 0 → aj_J Γ nL k (pc + 3) (lv) (st) w) : aj_J Γ nL k (pc) (lv) (.int x :: st) w := fun ls H locs h1 h2 h3 h4 => lv_if_lt G.1 G.2.1 d ht (fun q => kt q ls H locs h1 h2 h3 h4) (fun q => kf q ls H locs h1 h2 h3 h4)
theorem j_if_ge {Γ : aj_G} {ym : MethodName} {cc : ByteArray} {nL : Nat} {ret : Option FieldType} {rm : Room} {k : Nat × Nat} {pc : Nat} {lv : List (Nat × Value)} {st : List Value} {w : aw_W} {x : Int32} {off : Int} {tgt : Nat} (G : aj_ok Γ ym cc nL ret rm) (d : decode cc pc = .ok (.ifCond .ge off, 3)) (ht : (pc : Int) + off = (tgt : Int)) (kt : 0 ≤ x → aj_J Γ nL k (tgt) (lv) (st) w) (kf : ¬ 0 ≤ x → aj_J Γ nL k (pc + 3) (lv) (st) w) : aj_J Γ nL k (pc) (lv) (.int x :: st) w := fun ls H locs h1 h2 h3 h4 => lv_if_ge G.1 G.2.1 d ht (fun q => kt q ls H locs h1 h2 h3 h4) (fun q => kf q ls H locs h1 h2 h3 h4)
theorem j_if_gt {Γ : aj_G} {ym : MethodName} {cc : ByteArray} {nL : Nat} {ret : Option FieldType} {rm : Room} {k : Nat × Nat} {pc : Nat} {lv : List (Nat × Value)} {st : List Value} {w : aw_W} {x : Int32} {off : Int} {tgt : Nat} (G : aj_ok Γ ym cc nL ret rm) (d : decode cc pc = .ok (.ifCond .gt off, 3)) (ht : (pc : Int) + off = (tgt : Int)) (kt : 0 < x → aj_J Γ nL k (tgt) (lv) (st) w) (kf : ¬ 0 < x → aj_J Γ nL k (pc + 3) (lv) (st) w) : aj_J Γ nL k (pc) (lv) (.int x :: st) w := fun ls H locs h1 h2 h3 h4 => lv_if_gt G.1 G.2.1 d ht (fun q => kt q ls H locs h1 h2 h3 h4) (fun q => kf q ls H locs h1 h2 h3 h4)
theorem j_if_le {Γ : aj_G} {ym : MethodName} {cc : ByteArray} {nL : Nat} {ret : Option FieldType} {rm : Room} {k : Nat × Nat} {pc : Nat} {lv : List (Nat × Value)} {st : List Value} {w : aw_W} {x : Int32} {off : Int} {tgt : Nat} (G : aj_ok Γ ym cc nL ret rm) (d : decode cc pc = .ok (.ifCond .le off, 3)) (ht : (pc : Int) + off = (tgt : Int)) (kt : x ≤ 0 → aj_J Γ nL k (tgt) (lv) (st) w) (kf : ¬ x ≤ 0 → aj_J Γ nL k (pc + 3) (lv) (st) w) : aj_J Γ nL k (pc) (lv) (.int x :: st) w := fun ls H locs h1 h2 h3 h4 => lv_if_le G.1 G.2.1 d ht (fun q => kt q ls H locs h1 h2 h3 h4) (fun q => kf q ls H locs h1 h2 h3 h4)
theorem j_if_ne {Γ : aj_G} {ym : MethodName} {cc : ByteArray} {nL : Nat} {ret : Option FieldType} {rm : Room} {k : Nat × Nat} {pc : Nat} {lv : List (Nat × Value)} {st : List Value} {w : aw_W} {x : Int32} {off : Int} {tgt : Nat} (G : aj_ok Γ ym cc nL ret rm) (d : decode cc pc = .ok (.ifCond .ne off, 3)) (ht : (pc : Int) + off = (tgt : Int)) (kt : ¬ x = 0 → aj_J Γ nL k (tgt) (lv) (st) w) (kf : x = 0 → aj_J Γ nL k (pc + 3) (lv) (st) w) : aj_J Γ nL k (pc) (lv) (.int x :: st) w := fun ls H locs h1 h2 h3 h4 => lv_if_ne G.1 G.2.1 d ht (fun q => kt q ls H locs h1 h2 h3 h4) (fun q => kf q ls H locs h1 h2 h3 h4)
theorem j_icmp_eq {Γ : aj_G} {ym : MethodName} {cc : ByteArray} {nL : Nat} {ret : Option FieldType} {rm : Room} {k : Nat × Nat} {pc : Nat} {lv : List (Nat × Value)} {st : List Value} {w : aw_W} {x y : Int32} {off : Int} {tgt : Nat} (G : aj_ok Γ ym cc nL ret rm) (d : decode cc pc = .ok (.if_icmp .eq off, 3)) (ht : (pc : Int) + off = (tgt : Int)) (kt : x = y → aj_J Γ nL k (tgt) (lv) (st) w) (kf : ¬ x = y → aj_J Γ nL k (pc + 3) (lv) (st) w) : aj_J Γ nL k (pc) (lv) (.int y :: .int x :: st) w := fun ls H locs h1 h2 h3 h4 => lv_icmp_eq G.1 G.2.1 d ht (fun q => kt q ls H locs h1 h2 h3 h4) (fun q => kf q ls H locs h1 h2 h3 h4)
theorem j_icmp_lt {Γ : aj_G} {ym : MethodName} {cc : ByteArray} {nL : Nat} {ret : Option FieldType} {rm : Room} {k : Nat × Nat} {pc : Nat} {lv : List (Nat × Value)} {st : List Value} {w : aw_W} {x y : Int32} {off : Int} {tgt : Nat} (G : aj_ok Γ ym cc nL ret rm) (d : decode cc pc = .ok (.if_icmp .lt off, 3)) (ht : (pc : Int) + off = (tgt : Int)) (kt : x < y → aj_J Γ nL k (tgt) (lv) (st) w) (kf : ¬ x < y → aj_J Γ nL k (pc + 3) (lv) (st) w) : aj_J Γ nL k (pc) (lv) (.int y :: .int x :: st) w := fun ls H locs h1 h2 h3 h4 => lv_icmp_lt G.1 G.2.1 d ht (fun q => kt q ls H locs h1 h2 h3 h4) (fun q => kf q ls H locs h1 h2 h3 h4)
theorem j_icmp_ge {Γ : aj_G} {ym : MethodName} {cc : ByteArray} {nL : Nat} {ret : Option FieldType} {rm : Room} {k : Nat × Nat} {pc : Nat} {lv : List (Nat × Value)} {st : List Value} {w : aw_W} {x y : Int32} {off : Int} {tgt : Nat} (G : aj_ok Γ ym cc nL ret rm) (d : decode cc pc = .ok (.if_icmp .ge off, 3)) (ht : (pc : Int) + off = (tgt : Int)) (kt : y ≤ x → aj_J Γ nL k (tgt) (lv) (st) w) (kf : ¬ y ≤ x → aj_J Γ nL k (pc + 3) (lv) (st) w) : aj_J Γ nL k (pc) (lv) (.int y :: .int x :: st) w := fun ls H locs h1 h2 h3 h4 => lv_icmp_ge G.1 G.2.1 d ht (fun q => kt q ls H locs h1 h2 h3 h4) (fun q => kf q ls H locs h1 h2 h3 h4)
theorem j_icmp_gt {Γ : aj_G} {ym : MethodName} {cc : ByteArray} {nL : Nat} {ret : Option FieldType} {rm : Room} {k : Nat × Nat} {pc : Nat} {lv : List (Nat × Value)} {st : List Value} {w : aw_W} {x y : Int32} {off : Int} {tgt : Nat} (G : aj_ok Γ ym cc nL ret rm) (d : decode cc pc = .ok (.if_icmp .gt off, 3)) (ht : (pc : Int) + off = (tgt : Int)) (kt : y < x → aj_J Γ nL k (tgt) (lv) (st) w) (kf : ¬ y < x → aj_J Γ nL k (pc + 3) (lv) (st) w) : aj_J Γ nL k (pc) (lv) (.int y :: .int x :: st) w := fun ls H locs h1 h2 h3 h4 => lv_icmp_gt G.1 G.2.1 d ht (fun q => kt q ls H locs h1 h2 h3 h4) (fun q => kf q ls H locs h1 h2 h3 h4)
theorem j_icmp_le {Γ : aj_G} {ym : MethodName} {cc : ByteArray} {nL : Nat} {ret : Option FieldType} {rm : Room} {k : Nat × Nat} {pc : Nat} {lv : List (Nat × Value)} {st : List Value} {w : aw_W} {x y : Int32} {off : Int} {tgt : Nat} (G : aj_ok Γ ym cc nL ret rm) (d : decode cc pc = .ok (.if_icmp .le off, 3)) (ht : (pc : Int) + off = (tgt : Int)) (kt : x ≤ y → aj_J Γ nL k (tgt) (lv) (st) w) (kf : ¬ x ≤ y → aj_J Γ nL k (pc + 3) (lv) (st) w) : aj_J Γ nL k (pc) (lv) (.int y :: .int x :: st) w := fun ls H locs h1 h2 h3 h4 => lv_icmp_le G.1 G.2.1 d ht (fun q => kt q ls H locs h1 h2 h3 h4) (fun q => kf q ls H locs h1 h2 h3 h4)
theorem j_icmp_ne {Γ : aj_G} {ym : MethodName} {cc : ByteArray} {nL : Nat} {ret : Option FieldType} {rm : Room} {k : Nat × Nat} {pc : Nat} {lv : List (Nat × Value)} {st : List Value} {w : aw_W} {x y : Int32} {off : Int} {tgt : Nat} (G : aj_ok Γ ym cc nL ret rm) (d : decode cc pc = .ok (.if_icmp .ne off, 3)) (ht : (pc : Int) + off = (tgt : Int)) (kt : ¬ x = y → aj_J Γ nL k (tgt) (lv) (st) w) (kf : x = y → aj_J Γ nL k (pc + 3) (lv) (st) w) : aj_J Γ nL k (pc) (lv) (.int y :: .int x :: st) w := fun ls H locs h1 h2 h3 h4 => lv_icmp_ne G.1 G.2.1 d ht (fun q => kt q ls H locs h1 h2 h3 h4) (fun q => kf q ls H locs h1 h2 h3 h4)
theorem j_acmp_eq {Γ : aj_G} {ym : MethodName} {cc : ByteArray} {nL : Nat} {ret : Option FieldType} {rm : Room} {k : Nat × Nat} {pc : Nat} {lv : List (Nat × Value)} {st : List Value} {w : aw_W} {rx ry : Option Nat} {off : Int} {tgt : Nat} (G : aj_ok Γ ym cc nL ret rm) (d : decode cc pc = .ok (.if_acmp .eq off, 3)) (ht : (pc : Int) + off = (tgt : Int)) (kt : rx = ry → aj_J Γ nL k (tgt) (lv) (st) w) (kf : ¬ rx = ry → aj_J Γ nL k (pc + 3) (lv) (st) w) : aj_J Γ nL k (pc) (lv) (va_rf ry :: va_rf rx :: st) w := fun ls H locs h1 h2 h3 h4 => lv_acmp_eq G.1 G.2.1 d ht (fun q => kt q ls H locs h1 h2 h3 h4) (fun q => kf q ls H locs h1 h2 h3 h4)
theorem j_acmp_ne {Γ : aj_G} {ym : MethodName} {cc : ByteArray} {nL : Nat} {ret : Option FieldType} {rm : Room} {k : Nat × Nat} {pc : Nat} {lv : List (Nat × Value)} {st : List Value} {w : aw_W} {rx ry : Option Nat} {off : Int} {tgt : Nat} (G : aj_ok Γ ym cc nL ret rm) (d : decode cc pc = .ok (.if_acmp .ne off, 3)) (ht : (pc : Int) + off = (tgt : Int)) (kt : ¬ rx = ry → aj_J Γ nL k (tgt) (lv) (st) w) (kf : rx = ry → aj_J Γ nL k (pc + 3) (lv) (st) w) : aj_J Γ nL k (pc) (lv) (va_rf ry :: va_rf rx :: st) w := fun ls H locs h1 h2 h3 h4 => lv_acmp_ne G.1 G.2.1 d ht (fun q => kt q ls H locs h1 h2 h3 h4) (fun q => kf q ls H locs h1 h2 h3 h4)
theorem j_goto {Γ : aj_G} {ym : MethodName} {cc : ByteArray} {nL : Nat} {ret : Option FieldType} {rm : Room} {k : Nat × Nat} {pc : Nat} {lv : List (Nat × Value)} {st : List Value} {w : aw_W} {off : Int} {tgt : Nat} (G : aj_ok Γ ym cc nL ret rm) (d : decode cc pc = .ok (.goto off, 3)) (ht : (pc : Int) + off = (tgt : Int)) (h : aj_J Γ nL k (tgt) (lv) (st) w) : aj_J Γ nL k (pc) (lv) (st) w := fun ls H locs h1 h2 h3 h4 => lv_goto G.1 G.2.1 d ht (h ls H locs h1 h2 h3 h4)
theorem j_ifnull {Γ : aj_G} {ym : MethodName} {cc : ByteArray} {nL : Nat} {ret : Option FieldType} {rm : Room} {k : Nat × Nat} {pc : Nat} {lv : List (Nat × Value)} {st : List Value} {w : aw_W} {r : Option Nat} {off : Int} {tgt : Nat} (G : aj_ok Γ ym cc nL ret rm) (d : decode cc pc = .ok (.ifnull off, 3)) (ht : (pc : Int) + off = (tgt : Int)) (kt : r = none → aj_J Γ nL k (tgt) (lv) (st) w) (kf : ¬ r = none → aj_J Γ nL k (pc + 3) (lv) (st) w) : aj_J Γ nL k (pc) (lv) (va_rf r :: st) w := by
  intro ls H locs h1 h2 h3 h4
  cases r with
  | none => exact lv_ifnullN G.1 G.2.1 d ht (kt rfl ls H locs h1 h2 h3 h4)
  | some a => exact lv_ifnull G.1 G.2.1 d (kf (fun q => by cases q) ls H locs h1 h2 h3 h4)
theorem j_ifnonnull {Γ : aj_G} {ym : MethodName} {cc : ByteArray} {nL : Nat} {ret : Option FieldType} {rm : Room} {k : Nat × Nat} {pc : Nat} {lv : List (Nat × Value)} {st : List Value} {w : aw_W} {r : Option Nat} {off : Int} {tgt : Nat} (G : aj_ok Γ ym cc nL ret rm) (d : decode cc pc = .ok (.ifnonnull off, 3)) (ht : (pc : Int) + off = (tgt : Int)) (kt : ¬ r = none → aj_J Γ nL k (tgt) (lv) (st) w) (kf : r = none → aj_J Γ nL k (pc + 3) (lv) (st) w) : aj_J Γ nL k (pc) (lv) (va_rf r :: st) w := by
  intro ls H locs h1 h2 h3 h4
  cases r with
  | none => exact lv_ifnonnullN G.1 G.2.1 d (kf rfl ls H locs h1 h2 h3 h4)
  | some a => exact lv_ifnonnull G.1 G.2.1 d ht (kt (fun q => by cases q) ls H locs h1 h2 h3 h4)
theorem j_tableIn {Γ : aj_G} {ym : MethodName} {cc : ByteArray} {nL : Nat} {ret : Option FieldType} {rm : Room} {k : Nat × Nat} {pc : Nat} {lv : List (Nat × Value)} {st : List Value} {w : aw_W} {dflt lo hi : Int} {offs : Array Int} {len : Nat} {x : Int32} {off : Int} {tgt : Nat} (G : aj_ok Γ ym cc nL ret rm) (d : decode cc pc = .ok (.tableswitch dflt lo hi offs, len)) (q1 : ¬ x.toInt < lo) (q2 : ¬ hi < x.toInt) (ho : offs[(x.toInt - lo).toNat]? = some off) (ht : (pc : Int) + off = (tgt : Int)) (h : aj_J Γ nL k (tgt) (lv) (st) w) : aj_J Γ nL k (pc) (lv) (.int x :: st) w := fun ls H locs h1 h2 h3 h4 => lv_tableIn G.1 G.2.1 d q1 q2 ho ht (h ls H locs h1 h2 h3 h4)
theorem j_tableOut {Γ : aj_G} {ym : MethodName} {cc : ByteArray} {nL : Nat} {ret : Option FieldType} {rm : Room} {k : Nat × Nat} {pc : Nat} {lv : List (Nat × Value)} {st : List Value} {w : aw_W} {dflt lo hi : Int} {offs : Array Int} {len : Nat} {x : Int32} {tgt : Nat} (G : aj_ok Γ ym cc nL ret rm) (d : decode cc pc = .ok (.tableswitch dflt lo hi offs, len)) (q1 : x.toInt < lo ∨ hi < x.toInt) (ht : (pc : Int) + dflt = (tgt : Int)) (h : aj_J Γ nL k (tgt) (lv) (st) w) : aj_J Γ nL k (pc) (lv) (.int x :: st) w := fun ls H locs h1 h2 h3 h4 => lv_tableOut G.1 G.2.1 d q1 ht (h ls H locs h1 h2 h3 h4)
end
section
/-! ===== instructions that touch cells ===== -/
/-- the entry 'index' of the class 'own' is field k of class number ci -/
def aw_F (own : String) (index ci k : Nat) : Prop := ∃ (C : String) (T : u_T) (N : Nat), aCl[ci]? = some (C, T, N) ∧ k < N ∧ (∀ w ∈ u_ws C T N, w ∈ aw_ws) ∧
  (Cond.fieldLink own index (T k).1 (T k).2.1 (T k).2.2.1 ∈ aw_ws ∨ ∃ host, Cond.fieldLinkNest own index (T k).1 (T k).2.1 (T k).2.2.1 host ∈ aw_ws)
/-- what a store asks of a class: its fields' types, their names apart -/
def aw_C (ci : Nat) : Prop := ∃ (C : String) (T : u_T) (N : Nat) (ty0 : Nat → FieldType), aCl[ci]? = some (C, T, N) ∧ (∀ k, k < N → parseFieldDescriptor (T k).2.2.1 = some (ty0 k)) ∧ (∀ a, a < N → ∀ b, b < N → a ≠ b → (T a).2.1 ≠ (T b).2.1)
def aw_T (ci k : Nat) (ty : FieldType) (fin : Bool) : Prop := ∃ (C : String) (T : u_T) (N : Nat), aCl[ci]? = some (C, T, N) ∧ parseFieldDescriptor (T k).2.2.1 = some ty ∧ (T k).2.2.2 = fin ∧ (T k).1 = C
section
variable {Γ : aj_G} {ym : MethodName} {cc : ByteArray} {nL : Nat} {ret : Option FieldType} {rm : Room} {k : Nat × Nat} {pc : Nat} {lv : List (Nat × Value)} {st : List Value} {w w' : aw_W} {r : Option Nat} {ci kf index : Nat}
theorem j_gV {v : Value} (G : aj_ok Γ ym cc nL ret rm) (d : decode cc pc = .ok (.getfield index, 3)) (hF : aw_F ym.cls index ci kf) (e : aw_gV w r ci kf = some v) (h : aj_J Γ nL k (pc + 3) lv (v :: st) w) : aj_J Γ nL k pc lv (va_rf r :: st) w := by
  intro ls H locs h1 h2 h3 h4
  obtain ⟨a, fs, rfl, ha, hv⟩ := aw_gV_some e
  obtain ⟨C, T, N, hc, hk, hU, hl⟩ := hF
  have hP := h2.cell ha
  rcases hl with hl | ⟨host, hl⟩
  · exact va_get G.1 G.2.1 (Ts := u_ws C T N) (fun w hw => G.word (hU w hw)) (fun w hw => hw) G.own G.K.1 hP 0 rfl hc kf hk (G.word hl) (fun x hx => hx) hv d (h ls H locs h1 h2 h3 h4)
  · exact va_getN G.1 G.2.1 (Ts := u_ws C T N) (fun w hw => G.word (hU w hw)) (fun w hw => hw) G.own G.K.1 hP 0 rfl hc kf hk (G.word hl) (fun x hx => hx) hv d (h ls H locs h1 h2 h3 h4)
theorem j_gI {x : Int32} (G : aj_ok Γ ym cc nL ret rm) (d : decode cc pc = .ok (.getfield index, 3)) (hF : aw_F ym.cls index ci kf) (e : aw_gI w r ci kf = some x) (h : aj_J Γ nL k (pc + 3) lv (.int x :: st) w) : aj_J Γ nL k pc lv (va_rf r :: st) w := by
  obtain ⟨v, e1, e2⟩ := Option.bind_eq_some_iff.mp e
  rw [aw_vI_some e2] at e1
  exact j_gV G d hF e1 h
theorem j_gL {x : Int64} (G : aj_ok Γ ym cc nL ret rm) (d : decode cc pc = .ok (.getfield index, 3)) (hF : aw_F ym.cls index ci kf) (e : aw_gL w r ci kf = some x) (h : aj_J Γ nL k (pc + 3) lv (.long x :: st) w) : aj_J Γ nL k pc lv (va_rf r :: st) w := by
  obtain ⟨v, e1, e2⟩ := Option.bind_eq_some_iff.mp e
  rw [aw_vL_some e2] at e1
  exact j_gV G d hF e1 h
theorem j_gR {x : Option Nat} (G : aj_ok Γ ym cc nL ret rm) (d : decode cc pc = .ok (.getfield index, 3)) (hF : aw_F ym.cls index ci kf) (e : aw_gR w r ci kf = some x) (h : aj_J Γ nL k (pc + 3) lv (va_rf x :: st) w) : aj_J Γ nL k pc lv (va_rf r :: st) w := by
  obtain ⟨v, e1, e2⟩ := Option.bind_eq_some_iff.mp e
  rw [aw_vR_some e2] at e1
  exact j_gV G d hF e1 h
theorem j_pV {v : Value} {ty : FieldType} (G : aj_ok Γ ym cc nL ret rm) (d : decode cc pc = .ok (.putfield index, 3)) (hF : aw_F ym.cls index ci kf) (hC : aw_C ci) (hT : aw_T ci kf ty false) (hn : narrow ty v = v) (hf : fits ty v = true) (e : aw_pV w r ci kf v = some w') (h : aj_J Γ nL k (pc + 3) lv st w') : aj_J Γ nL k pc lv (v :: va_rf r :: st) w := by
  intro ls H locs h1 h2 h3 h4
  obtain ⟨a, fs, rfl, ha, hlt, rfl⟩ := aw_pV_some e
  obtain ⟨C, T, N, hc, hk, hU, hl⟩ := hF
  obtain ⟨C2, T2, N2, ty0, hc2, hty, hnm⟩ := hC
  cases Option.some.inj (hc2.symm.trans hc)
  obtain ⟨C3, T3, N3, hc3, hd, hfin, -⟩ := hT
  cases Option.some.inj (hc3.symm.trans hc)
  have hts : ∀ w ∈ u_ws C T N, w.before (ga Γ) (gs Γ) = true := fun w hw => G.word (hU w hw)
  have hap := va_apart (own := ym.cls) hts (fun w hw => hw) ty0 hty hnm G.K.1 hc
  obtain ⟨q, hq, cell, q1, q2, q3, q4⟩ := h2.2 a _ ha
  cases Option.some.inj (hq.symm.trans hc)
  obtain ⟨hS, hfc, kC, hkC, hkind⟩ := G.K.1.1 ci _ hc
  obtain ⟨cf, kf', fi, f, hi, hsl⟩ := hS kf hk
  have hlay := hts _ (u_in_lay hk)
  unfold u_lay at hlay
  rw [if_neg (by rw [hfin]; decide)] at hlay
  have hst := (u_facts hfc hkC (u_lays hts (fun w hw => hw) hk) hi).1
  have h6 := u_store hfc hkC hkind hlay hi hd hn hf
  have goal : ∀ (H' : Heap), H'[a]? = some (cell.setSlot f.slot v) → H'.size = H.size → (∀ q : Nat, q ≠ a → H'[q]? = H[q]?) → W (gp Γ) (gl Γ) (ge Γ) (gR Γ) (gs Γ) (gm Γ) (ga Γ) (gb Γ) (gme Γ) (gc Γ) H' (locs ++ [⟨a, f.slot⟩]) k.1 k.2 (gQ Γ) (F0 (gm Γ) (pc + 3) ls st) := by
    intro H' e1 e2 e3
    rw [hsl] at e1
    exact h ls H' _ h1 (h2.set ⟨_, hc, t_OB.to (V := updV (vp_V fs) kf v) ⟨_, e1, q2, q3, t_set q4 hap hk v⟩ (fun j _ => vp_updV_set hlt v j)⟩ e2 e3) (h3.set ha) (h4.put e2 e3 (h3 a _ ha))
  rcases hl with hl | ⟨host, hl⟩
  · exact W.putK G.1 G.2.1 (f := f) ⟨G.own, G.word hl, ⟨_, _, _, hi⟩, hst⟩ (by rw [q2]; exact h6) q1 q3 (by rw [hsl]; exact k2_hasslot (q4 kf hk)) rfl rfl d goal
  · exact va_WputK G.1 G.2.1 (f := f) G.own (G.word hl) hi hst (by rw [q2]; exact h6) q1 q3 (by rw [hsl]; exact k2_hasslot (q4 kf hk)) rfl rfl d goal
/-- a final field, in a constructor of its own type -/
theorem j_pF {v : Value} {ty : FieldType} (G : aj_ok Γ ym cc nL ret rm) (d : decode cc pc = .ok (.putfield index, 3)) (hF : aw_F ym.cls index ci kf) (hC : aw_C ci) (hT : aw_T ci kf ty true) (hy : ym.name = "<init>") (hown : (aCl[ci]?).map (fun q => q.1) = some ym.cls) (hlk : ∀ C T N, aCl[ci]? = some (C, T, N) → Cond.fieldLink ym.cls index (T kf).1 (T kf).2.1 (T kf).2.2.1 ∈ aw_ws) (hn : narrow ty v = v) (hf : fits ty v = true) (e : aw_pV w r ci kf v = some w') (h : aj_J Γ nL k (pc + 3) lv st w') : aj_J Γ nL k pc lv (v :: va_rf r :: st) w := by
  intro ls H locs h1 h2 h3 h4
  obtain ⟨a, fs, rfl, ha, hlt, rfl⟩ := aw_pV_some e
  obtain ⟨C, T, N, hc, hk, hU, -⟩ := hF
  obtain ⟨C2, T2, N2, ty0, hc2, hty, hnm⟩ := hC
  cases Option.some.inj (hc2.symm.trans hc)
  obtain ⟨C3, T3, N3, hc3, hd, hfin, hdecl⟩ := hT
  cases Option.some.inj (hc3.symm.trans hc)
  rw [hc] at hown
  have hown : C = ym.cls := Option.some.inj hown
  have hl := hlk C T N hc
  have hts : ∀ w ∈ u_ws C T N, w.before (ga Γ) (gs Γ) = true := fun w hw => G.word (hU w hw)
  have hap := va_apart (own := ym.cls) hts (fun w hw => hw) ty0 hty hnm G.K.1 hc
  obtain ⟨q, hq, cell, q1, q2, q3, q4⟩ := h2.2 a _ ha
  cases Option.some.inj (hq.symm.trans hc)
  obtain ⟨hS, hfc, kC, hkC, hkind⟩ := G.K.1.1 ci _ hc
  obtain ⟨cf, kf', fi, f, hi, hsl⟩ := hS kf hk
  have hlay := hts _ (u_in_lay hk)
  unfold u_lay at hlay
  rw [if_pos hfin] at hlay
  have hst := (u_facts hfc hkC (u_lays hts (fun w hw => hw) hk) hi).1
  have hcf : (gm Γ).cls = cf := by
    obtain ⟨_, _, c', _, _, _, -, -, hf', -, -, -, hown2, -⟩ := Cond.laysFinal_spec hlay
    have e1 : c' = cf := by have := hi.symm.trans hf'; simp at this; exact this.1.symm
    rw [hdecl, hown] at hown2
    rw [← e1]; exact Option.some.inj (G.own.symm.trans hown2)
  have h6 := u_fits hfc hkC hkind (Or.inr hlay) hi hd hn hf
  refine W.putFinK G.1 G.2.1 G.own (G.word hl) hi hst hcf (G.name.trans hy) (by rw [q2]; exact h6) q1 q3 (by rw [hsl]; exact k2_hasslot (q4 kf hk)) rfl rfl d ?_
  intro H' e1 e2 e3
  rw [hsl] at e1
  exact h ls H' _ h1 (h2.set ⟨_, hc, t_OB.to (V := updV (vp_V fs) kf v) ⟨_, e1, q2, q3, t_set q4 hap hk v⟩ (fun j _ => vp_updV_set hlt v j)⟩ e2 e3) (h3.set ha) (h4.put e2 e3 (h3 a _ ha))
/-! arrays -/
theorem j_alen {t : Nat} {ty : FieldType} {n : Int32} (G : aj_ok Γ ym cc nL ret rm) (d : decode cc pc = .ok (.arraylength, 1)) (ht : (aw_tys (gA Γ))[t]? = some (gA Γ t, ty)) (e : aw_len w r t = some n) (h : aj_J Γ nL k (pc + 1) lv (.int n :: st) w) : aj_J Γ nL k pc lv (va_rf r :: st) w := by
  intro ls H locs h1 h2 h3 h4
  obtain ⟨⟨a, x⟩, e1, e2⟩ := Option.map_eq_some_iff.mp e
  obtain ⟨rfl, ha⟩ := aw_arr_some e1
  exact va_alen G.1 G.2.1 G.K.1 (h2.cell ha) 0 t rfl ht e2 d (h ls H locs h1 h2 h3 h4)
theorem j_bald {i x : Int32} (G : aj_ok Γ ym cc nL ret rm) (d : decode cc pc = .ok (.baload, 1)) (e : aw_aI w r 0 i = some x) (h : aj_J Γ nL k (pc + 1) lv (.int x :: st) w) : aj_J Γ nL k pc lv (.int i :: va_rf r :: st) w := by
  intro ls H locs h1 h2 h3 h4
  obtain ⟨a, n, f, rfl, ha, hin, rfl⟩ := aw_aI_some e
  exact va_bald G.1 G.2.1 G.K.1 (h2.cell ha) 0 0 rfl rfl hin d (h ls H locs h1 h2 h3 h4)
theorem j_iald {i x : Int32} (G : aj_ok Γ ym cc nL ret rm) (d : decode cc pc = .ok (.iaload, 1)) (e : aw_aI w r 1 i = some x) (h : aj_J Γ nL k (pc + 1) lv (.int x :: st) w) : aj_J Γ nL k pc lv (.int i :: va_rf r :: st) w := by
  intro ls H locs h1 h2 h3 h4
  obtain ⟨a, n, f, rfl, ha, hin, rfl⟩ := aw_aI_some e
  exact va_iald G.1 G.2.1 G.K.1 (h2.cell ha) 0 1 rfl rfl hin d (h ls H locs h1 h2 h3 h4)
theorem j_zald {i x : Int32} (G : aj_ok Γ ym cc nL ret rm) (d : decode cc pc = .ok (.baload, 1)) (e : aw_aI w r 3 i = some x) (h : aj_J Γ nL k (pc + 1) lv (.int x :: st) w) : aj_J Γ nL k pc lv (.int i :: va_rf r :: st) w := by
  intro ls H locs h1 h2 h3 h4
  obtain ⟨a, n, f, rfl, ha, hin, rfl⟩ := aw_aI_some e
  exact va_zald G.1 G.2.1 G.K.1 (h2.cell ha) 0 3 rfl rfl hin d (h ls H locs h1 h2 h3 h4)
theorem j_lald {i : Int32} {x : Int64} (G : aj_ok Γ ym cc nL ret rm) (d : decode cc pc = .ok (.laload, 1)) (e : aw_aL w r 2 i = some x) (h : aj_J Γ nL k (pc + 1) lv (.long x :: st) w) : aj_J Γ nL k pc lv (.int i :: va_rf r :: st) w := by
  intro ls H locs h1 h2 h3 h4
  obtain ⟨a, n, f, rfl, ha, hin, rfl⟩ := aw_aL_some e
  exact va_lald G.1 G.2.1 G.K.1 (h2.cell ha) 0 2 rfl rfl hin d (h ls H locs h1 h2 h3 h4)
theorem j_aald {t : Nat} {C : String} {i : Int32} {x : Option Nat} (G : aj_ok Γ ym cc nL ret rm) (d : decode cc pc = .ok (.aaload, 1)) (ht : (aw_tys (gA Γ))[t]? = some (gA Γ t, .object C)) (e : aw_aR w r t i = some x) (h : aj_J Γ nL k (pc + 1) lv (va_rf x :: st) w) : aj_J Γ nL k pc lv (.int i :: va_rf r :: st) w := by
  intro ls H locs h1 h2 h3 h4
  obtain ⟨a, n, f, rfl, ha, hin, rfl⟩ := aw_aR_some e
  exact va_aldq G.1 G.2.1 G.K.1 (h2.cell ha) 0 t rfl ht hin d (h ls H locs h1 h2 h3 h4)
theorem aj_updV_i (f : Nat → Int32) (j : Nat) (x : Int32) : updV (fun q => Value.int (f q)) j (.int x) = fun q => Value.int (upd f j x q) := by
  funext q
  by_cases hq : q = j
  · subst hq; simp [updV, upd]
  · simp [updV, upd, hq]
theorem j_bast {i x : Int32} (G : aj_ok Γ ym cc nL ret rm) (d : decode cc pc = .ok (.bastore, 1)) (e : aw_sI w r 0 i x.toInt8.toInt32 = some w') (h : aj_J Γ nL k (pc + 1) lv st w') : aj_J Γ nL k pc lv (.int x :: .int i :: va_rf r :: st) w := by
  intro ls H locs h1 h2 h3 h4
  obtain ⟨a, n, f, rfl, ha, hin, rfl⟩ := aw_sI_some e
  refine W.bast G.1 G.2.1 (h2.2 a _ ha) ((G.K.1.2 0 _ rfl).1 n (fun j => .int (f j))) (fun q => by cases q) (by show ¬ (i < 0 ∨ (arrV _ _ _).slots.size ≤ _); rw [arrV_size]; exact hin) rfl rfl d fun H1 e1 z oq => ?_
  refine h ls H1 _ h1 (h2.set ?_ z oq) (h3.set ha) (h4.put z oq (h3 a _ ha))
  show H1[a]? = some (vp_cell _ _)
  rw [e1]
  show some ((vp_cell (gA Γ 0) (n, .inl f)).setSlot _ _) = some (vp_cell (gA Γ 0) (n, _))
  rw [vp_cell_i, vp_cell_i, arrV_store]
  exact congrArg (fun g => some (arrV (gA Γ 0) n g)) (aj_updV_i f _ _)
theorem j_iast {i x : Int32} (G : aj_ok Γ ym cc nL ret rm) (d : decode cc pc = .ok (.iastore, 1)) (e : aw_sI w r 1 i x = some w') (h : aj_J Γ nL k (pc + 1) lv st w') : aj_J Γ nL k pc lv (.int x :: .int i :: va_rf r :: st) w := by
  intro ls H locs h1 h2 h3 h4
  obtain ⟨a, n, f, rfl, ha, hin, rfl⟩ := aw_sI_some e
  refine W.iast G.1 G.2.1 (h2.2 a _ ha) ((G.K.1.2 1 _ rfl).1 n (fun j => .int (f j))) (fun q => by cases q) (by show ¬ (i < 0 ∨ (arrV _ _ _).slots.size ≤ _); rw [arrV_size]; exact hin) rfl rfl d fun H1 e1 z oq => ?_
  refine h ls H1 _ h1 (h2.set ?_ z oq) (h3.set ha) (h4.put z oq (h3 a _ ha))
  show H1[a]? = some (vp_cell _ _)
  rw [e1]
  show some ((vp_cell (gA Γ 1) (n, .inl f)).setSlot _ _) = some (vp_cell (gA Γ 1) (n, _))
  rw [vp_cell_i, vp_cell_i, arrV_store]
  exact congrArg (fun g => some (arrV (gA Γ 1) n g)) (aj_updV_i f _ _)
theorem j_zast {i x : Int32} (G : aj_ok Γ ym cc nL ret rm) (d : decode cc pc = .ok (.bastore, 1)) (hx : narrow .boolean (.int x) = .int x) (e : aw_sI w r 3 i x = some w') (h : aj_J Γ nL k (pc + 1) lv st w') : aj_J Γ nL k pc lv (.int x :: .int i :: va_rf r :: st) w := by
  intro ls H locs h1 h2 h3 h4
  obtain ⟨a, n, f, rfl, ha, hin, rfl⟩ := aw_sI_some e
  refine W.zast G.1 G.2.1 (h2.2 a _ ha) ((G.K.1.2 3 _ rfl).1 n (fun j => .int (f j))) (fun q => by cases q) (by show ¬ (i < 0 ∨ (arrV _ _ _).slots.size ≤ _); rw [arrV_size]; exact hin) rfl rfl d fun H1 e1 z oq => ?_
  refine h ls H1 _ h1 (h2.set ?_ z oq) (h3.set ha) (h4.put z oq (h3 a _ ha))
  show H1[a]? = some (vp_cell _ _)
  rw [e1, hx]
  show some ((vp_cell (gA Γ 3) (n, .inl f)).setSlot _ _) = some (vp_cell (gA Γ 3) (n, _))
  rw [vp_cell_i, vp_cell_i, arrV_store]
  exact congrArg (fun g => some (arrV (gA Γ 3) n g)) (aj_updV_i f _ _)
theorem j_last {i : Int32} {x : Int64} (G : aj_ok Γ ym cc nL ret rm) (d : decode cc pc = .ok (.lastore, 1)) (e : aw_sL w r 2 i x = some w') (h : aj_J Γ nL k (pc + 1) lv st w') : aj_J Γ nL k pc lv (.long x :: .int i :: va_rf r :: st) w := by
  intro ls H locs h1 h2 h3 h4
  obtain ⟨a, n, f, rfl, ha, hin, rfl⟩ := aw_sL_some e
  refine W.last G.1 G.2.1 (h2.2 a _ ha) ((G.K.1.2 2 _ rfl).1 n (fun j => .long (f j))) (fun q => by cases q) (by show ¬ (i < 0 ∨ (arrV _ _ _).slots.size ≤ _); rw [arrV_size]; exact hin) rfl rfl d fun H1 e1 z oq => ?_
  refine h ls H1 _ h1 (h2.set ?_ z oq) (h3.set ha) (h4.put z oq (h3 a _ ha))
  show H1[a]? = some (vp_cell _ _)
  rw [e1]
  show some ((vp_cell (gA Γ 2) (n, .inr (.inl f))).setSlot _ _) = some (vp_cell (gA Γ 2) (n, _))
  rw [vp_cell_l, vp_cell_l, arrV_store]
  refine congrArg (fun g => some (arrV (gA Γ 2) n g)) ?_
  funext q
  by_cases hq : q = i.toNatClampNeg
  · subst hq; simp [updV, vp_updL]
  · simp [updV, vp_updL, hq]
/-- a reference into an array of its own kind -/
theorem j_aast {t cv : Nat} {T : u_T} {N : Nat} {C : String} {i : Int32} {x : Option Nat} {q0 : Nat × List Value} (G : aj_ok Γ ym cc nL ret rm) (d : decode cc pc = .ok (.aastore, 1)) (ht : (aw_tys (gA Γ))[t]? = some (gA Γ t, .object C)) (hc : aCl[cv]? = some (C, T, N)) (hx : aw_obj w x cv = some q0) (e : aw_sR w r t i x = some w') (h : aj_J Γ nL k (pc + 1) lv st w') : aj_J Γ nL k pc lv (va_rf x :: .int i :: va_rf r :: st) w := by
  intro ls H locs h1 h2 h3 h4
  obtain ⟨a, n, f, rfl, ha, hin, rfl⟩ := aw_sR_some e
  obtain ⟨rfl, hx1⟩ := aw_obj_some hx
  have hlt : i.toNatClampNeg < n := Nat.not_le.mp fun q => hin (Or.inr q)
  have h0 : ¬ i < 0 := fun q => hin (Or.inl q)
  obtain ⟨r', hr', cellV, g1, g2, g3, -⟩ := h2.2 _ _ hx1
  have hcls := (G.K.1.1 cv _ hc).2
  obtain ⟨kA, comp, k1, k2, k3, -⟩ := (G.K.1.2 t _ ht).2
  have hcomp : comp = (gD Γ).1 cv := Option.some.inj (k3.symm.trans hcls.1)
  subst hcomp
  obtain ⟨kC, hkC, hkk⟩ := hcls.2
  refine W.aast G.1 G.2.1 (h2.2 a _ ha) (fun q h => by cases h) (fun h => by cases h) k1 k2 rfl hkC ⟨h0, by show _ < (arrV _ _ _).slots.size; rw [arrV_size]; exact hlt⟩ g1 (fun q h => by rw [g3] at h; cases h) (by rw [g2]; exact hkC) (by rw [g2]; exact va_assign hcls) rfl rfl d fun H1 e1 z oq => ?_
  refine h ls H1 _ h1 (h2.set ?_ z oq) (h3.set ha) (h4.put z oq (h3 a _ ha))
  show H1[a]? = some (vp_cell _ _)
  rw [e1]
  show some ((vp_cell (gA Γ t) (n, .inr (.inr (.inr (.inr f))))).setSlot _ _) = some (vp_cell (gA Γ t) (n, _))
  rw [vp_cell_q, vp_cell_q, arrV_store]
  refine congrArg (fun g => some (arrV (gA Γ t) n g)) ?_
  funext q
  by_cases hq : q = i.toNatClampNeg
  · subst hq; simp [updV, va_up, va_rf]
  · simp [updV, va_up, hq]
end
end
section
/-! ===== contracts, ends, calls ===== -/
def aj_post (D : va_G) (dA : Nat → ClassId) (base : Nat) (w : aw_W) (st t : State) : Prop := aw_R D dA w t.heap ∧ aw_In base w ∧ va_F (fun q => base ≤ q) st t
def aj_Qc (D : va_G) (dA : Nat → ClassId) (base : Nat) (post : Option Value → aw_W → Prop) : Array Value → State → Outcome → State → Prop := fun _ st oc t => ∃ (v : Option Value) (w : aw_W), oc = .returned v ∧ post v w ∧ aj_post D dA base w st t
def aj_Pc (D : va_G) (dA : Nat → ClassId) (base : Nat) (av : List Value) (w : aw_W) : Array Value → State → Prop := va_Pc av (fun U => aw_K D dA base U ∧ aw_R D dA w U.heap ∧ aw_In base w)
/-- the contract: from every state that holds the world w the method with the arguments av comes to its end: it answers v with the world w' (post v w') -/
def aj_Ct (l : Launch) (D : va_G) (dA : Nat → ClassId) (base : Nat) (M : aj_M) (rm : Room) (av : List Value) (w : aw_W) (post : Option Value → aw_W → Prop) : Prop :=
  Met l M.1 [Cond.code M.1 M.2.1 M.2.2.1 M.2.2.2] rm (aj_Pc D dA base av w) (aj_Qc D dA base post) rm.cells rm.slots (fun q => base ≤ q)
/-- an end by 'return' is an end of the method -/
def aj_fin (Γ : aj_G) (rm : Room) (post : Option Value → aw_W → Prop) : Prop :=
  ∀ (H : Heap) (locs : List Loc) (g : JFrame), W (gp Γ) (gl Γ) (ge Γ) (gR Γ) (gs Γ) (gm Γ) (ga Γ) (gb Γ) (gme Γ) (gc Γ) H locs rm.cells rm.slots (MQ (gb Γ) (aj_Qc (gD Γ) (gA Γ) (gB Γ) post) (ga Γ) (gs Γ) rm.cells rm.slots (fun q => gB Γ ≤ q)) g → W (gp Γ) (gl Γ) (ge Γ) (gR Γ) (gs Γ) (gm Γ) (ga Γ) (gb Γ) (gme Γ) (gc Γ) H locs rm.cells rm.slots (gQ Γ) g
theorem aj_blind {D : va_G} {dA : Nat → ClassId} {base : Nat} {av : List Value} {w : aw_W} : FrameBlind (aj_Pc D dA base av w) :=
  fun a U g mk h => ⟨h.1, h.2.1.warm (U := U.calling g mk a) (State.WarmedH.refl U) (Nat.le_refl _) (fun _ _ _ => rfl), h.2.2.1, h.2.2.2⟩
theorem aj_enter {l : Launch} {D : va_G} {dA : Nat → ClassId} {base : Nat} {M : aj_M} {rm : Room} {av : List Value} {w : aw_W} {post : Option Value → aw_W → Prop} (hl : l.stackTraces = false) (hy : plainName M.1.cls = true) (hn : (lg_sl av).length ≤ M.2.2.1)
    (body : ∀ Γ : aj_G, aj_ok Γ M.1 M.2.1 M.2.2.1 M.2.2.2 rm → aj_fin Γ rm post → aj_J Γ M.2.2.1 (0, 0) 0 (lv_args 0 av) [] w) : aj_Ct l D dA base M rm av w post := by
  refine Met.ofW hy rfl ?_
  intro p e s m args below meth c s₁ B hml hv
  obtain ⟨rfl, hK, hR, hI⟩ := hv
  have hl' := lv_entry av (n := M.2.2.1) hn
  rw [lg_entry_eq]
  exact body (p, l, e, (headSpec [Cond.code M.1 M.2.1 M.2.2.1 M.2.2.2] rm).room, s, m, av.toArray, below, meth, c, MQ below (aj_Qc D dA base post) av.toArray s rm.cells rm.slots (fun q => base ≤ q), D, dA, base)
    ⟨B.exec, B.bytes, hml, findClass_of_methodNamed B.named, hK, B.notSynchronized, B.returns, hl, rfl, (name_of_methodNamed B.named B.method).1⟩ (fun _ _ _ h => h) _ s.heap [] hl' hR hI va_S.rf
section
variable {Γ : aj_G} {ym : MethodName} {cc : ByteArray} {nL : Nat} {ret : Option FieldType} {rm : Room} {k : Nat × Nat} {pc : Nat} {lv : List (Nat × Value)} {st : List Value} {w w' : aw_W} {r : Option Nat} {ci kf index : Nat} {post : Option Value → aw_W → Prop}
theorem j_iret {v : Int32} (G : aj_ok Γ ym cc nL (some .int) rm) (E : aj_fin Γ rm post) (d : decode cc pc = .ok (.ireturn, 1)) (hk : k.1 ≤ rm.cells ∧ k.2 ≤ rm.slots) (hp : post (some (.int v)) w) : aj_J Γ nL k pc lv [.int v] w := by
  intro ls H locs h1 h2 h3 h4
  exact W.widen hk.1 hk.2 (E _ _ _ (W.iret G.1 G.2.1 G.retT (fun t ht hW => ⟨_, w, rfl, hp, by rw [ht]; exact h2, h3, h4.F ht⟩) h4.2.2 d G.locks))
theorem j_zret {v : Int32} (G : aj_ok Γ ym cc nL (some .boolean) rm) (E : aj_fin Γ rm post) (d : decode cc pc = .ok (.ireturn, 1)) (hk : k.1 ≤ rm.cells ∧ k.2 ≤ rm.slots) (hv : narrow .boolean (.int v) = .int v) (hp : post (some (.int v)) w) : aj_J Γ nL k pc lv [.int v] w := by
  intro ls H locs h1 h2 h3 h4
  exact W.widen hk.1 hk.2 (E _ _ _ (W.zret G.1 G.2.1 G.retT hv (fun t ht hW => ⟨_, w, rfl, hp, by rw [ht]; exact h2, h3, h4.F ht⟩) h4.2.2 d G.locks))
theorem j_lret {v : Int64} (G : aj_ok Γ ym cc nL (some .long) rm) (E : aj_fin Γ rm post) (d : decode cc pc = .ok (.lreturn, 1)) (hk : k.1 ≤ rm.cells ∧ k.2 ≤ rm.slots) (hp : post (some (.long v)) w) : aj_J Γ nL k pc lv [.long v] w := by
  intro ls H locs h1 h2 h3 h4
  exact W.widen hk.1 hk.2 (E _ _ _ (W.lret G.1 G.2.1 G.retT (fun t ht hW => ⟨_, w, rfl, hp, by rw [ht]; exact h2, h3, h4.F ht⟩) h4.2.2 d G.locks))
theorem j_aret {C : String} (G : aj_ok Γ ym cc nL (some (.object C)) rm) (E : aj_fin Γ rm post) (d : decode cc pc = .ok (.areturn, 1)) (hk : k.1 ≤ rm.cells ∧ k.2 ≤ rm.slots) (hp : post (some (va_rf r)) w) : aj_J Γ nL k pc lv [va_rf r] w := by
  intro ls H locs h1 h2 h3 h4
  refine W.widen hk.1 hk.2 (E _ _ _ (W.aret G.1 G.2.1 G.retT (Or.inl ⟨C, rfl⟩) ?_ (fun t ht hW => ⟨_, w, rfl, hp, by rw [ht]; exact h2, h3, h4.F ht⟩) h4.2.2 d G.locks))
  cases r with
  | none => exact Or.inl rfl
  | some a => exact Or.inr ⟨a, rfl⟩
theorem j_vret (G : aj_ok Γ ym cc nL none rm) (E : aj_fin Γ rm post) (d : decode cc pc = .ok (.return_, 1)) (hk : k.1 ≤ rm.cells ∧ k.2 ≤ rm.slots) (hp : post none w) : aj_J Γ nL k pc lv [] w := by
  intro ls H locs h1 h2 h3 h4
  exact W.widen hk.1 hk.2 (E _ _ _ (W.vret G.1 G.2.1 G.retT (fun t ht hW => ⟨_, w, rfl, hp, by rw [ht]; exact h2, h3, h4.F ht⟩) h4.2.2 d G.locks))
theorem j_run {mc ms : Nat} {A : Array Value} {st0 : List Value} {pn : Option Value → aw_W → Prop}
    (hr : ∀ (ls : Array Slot) (H : Heap) (locs : List Loc), lv_has ls nL lv → aw_R (gD Γ) (gA Γ) w H → aw_In (gB Γ) w → va_S (fun q => gB Γ ≤ q) (gs Γ).heap H locs →
      va_Run (gp Γ) (gl Γ) (ge Γ) (gR Γ) (gs Γ) (gm Γ) (ga Γ) (gb Γ) (gme Γ) (gc Γ) H locs k.1 k.2 mc ms (F0 (gm Γ) pc ls st0) st (aj_Qc (gD Γ) (gA Γ) (gB Γ) pn A) (fun q => gB Γ ≤ q))
    (kn : ∀ v w', pn v w' → aj_J Γ nL (k.1 + mc, k.2 + ms) (pc + 3) lv (v.toList ++ st) w') : aj_J Γ nL k pc lv st0 w := by
  intro ls H locs h1 h2 h3 h4 T hT X
  obtain ⟨v, st₀, t, T', L, h0, X', hL, e1, e2, ⟨v', w', hv, hp, hR', hI', hF⟩, sg⟩ := hr ls H locs h1 h2 h3 h4 T hT X
  cases hv
  obtain ⟨hz, hk⟩ := hF
  rw [h0] at hz hk
  have k3 : va_S (fun q => gB Γ ≤ q) (gs Γ).heap T'.heap (locs ++ L) := ⟨Nat.le_trans h4.1 (by rw [e1]; exact hz), fun q q1 q2 => by rw [e1, hk q (Nat.lt_of_lt_of_le q1 h4.1) q2]; exact h4.2.1 q q1 q2, fun q hq => by
    rcases List.mem_append.mp hq with h | h
    · exact h4.2.2 q h
    · exact hL q h⟩
  obtain ⟨t2, a1, b1⟩ := kn v w' hp ls T'.heap (locs ++ L) h1 (by rw [e1]; exact hR') hI' k3 T' rfl X'
  exact ⟨t2, sg t2 a1, b1⟩
/-- what the tables say of a method that is called -/
def aw_Mw (M : aj_M) (n : Nat) : Prop := Cond.code M.1 M.2.1 M.2.2.1 M.2.2.2 ∈ aw_ws ∧ Cond.initialized M.1.cls ∈ aw_ws ∧ (M.1.cls ≠ "java/lang/invoke/MethodHandle" ∧ M.1.cls ≠ "java/lang/invoke/VarHandle") ∧ (parseMethodDescriptor M.1.desc).map (fun d => d.parameters.length) = some n
def aw_Mi (M : aj_M) : Prop := Cond.instanceMethod M.1 ∈ aw_ws ∧ Cond.selects M.1.cls M.1 M.1 ∈ aw_ws
def aw_L (own : String) (index : Nat) (y : MethodName) : Prop := Cond.methodLink own index y ∈ aw_ws ∨ ∃ host, Cond.methodLinkNest own index y host ∈ aw_ws
theorem aw_Mw.len {M : aj_M} {n : Nat} (h : aw_Mw M n) : ∀ sig, parseMethodDescriptor M.1.desc = some sig → n = sig.parameters.length := by
  intro sig hs
  have h2 := h.2.2.2
  rw [hs] at h2
  exact (Option.some.inj h2).symm
theorem aj_ok.warm (G : aj_ok Γ ym cc nL ret rm) {H : Heap} {locs : List Loc} (h4 : va_S (fun q => gB Γ ≤ q) (gs Γ).heap H locs) {U : State} (hU : U.heap = H) (hW : (gs Γ).WarmedH U.vm) : aw_K (gD Γ) (gA Γ) (gB Γ) U :=
  G.K.warm hW (by rw [hU]; exact h4.1) (fun q h1 h2 => by rw [hU]; exact h4.2.1 q h1 h2)
theorem aj_ok.words (G : aj_ok Γ ym cc nL ret rm) {c : Cond} (hc : c ∈ aw_ws) : ∀ w ∈ [c], ∀ (a' : Array Value) (U : State), (gs Γ).WarmedH U.vm → w.before a' U = true := by
  intro w hw a' U hW
  rw [List.mem_singleton.mp hw]
  exact aw_at (aw_ws_ok hc) hW (G.K.2.1 _ hc)
theorem j_callV {M : aj_M} {rmc : Room} {n : Nat} {As st0 : List Value} {T : u_T} {N : Nat} {q0 : Nat × List Value} {pn : Option Value → aw_W → Prop} (G : aj_ok Γ ym cc nL ret rm) (d : decode cc pc = .ok (.invokevirtual index, 3)) (hM : aj_Ct (gl Γ) (gD Γ) (gA Γ) (gB Γ) M rmc (va_rf r :: As) w pn)
    (hw : aw_Mw M n) (hi : aw_Mi M) (hL : aw_L ym.cls index M.1) (hc : aCl[ci]? = some (M.1.cls, T, N)) (ho : aw_obj w r ci = some q0) (hn : As.length = n) (hst : st0 = As.reverse ++ va_rf r :: st) (hW : (st.map fun v => v.category).sum ≤ 8) (hf : rmc.frames + 1 ≤ rm.frames ∧ 8 + (M.2.2.1 + 11) + rmc.locals ≤ rm.locals) (hcs : k.1 + rmc.cells ≤ rm.cells ∧ k.2 + rmc.slots ≤ rm.slots)
    (kn : ∀ v w', pn v w' → aj_J Γ nL (k.1 + rmc.cells, k.2 + rmc.slots) (pc + 3) lv (v.toList ++ st) w') : aj_J Γ nL k pc lv st0 w := by
  refine j_run (pn := pn) (A := (va_rf r :: As).toArray) (mc := rmc.cells) (ms := rmc.slots) ?_ kn
  intro ls H locs h1 h2 h3 h4
  obtain ⟨rfl, ha⟩ := aw_obj_some ho
  have hrcv : ∃ cellB : Cell, H[q0.1]? = some cellB ∧ cellB.vm.isStatics = false ∧ (gs Γ).vm.findClass M.1.cls = some cellB.cls := va_recv (q0 := 0) (fs := q0.2) G.K.1 (h2.cell ha) hc rfl
  have hpre : PreV (gs Γ) H M.1.cls q0.1 (aj_Pc (gD Γ) (gA Γ) (gB Γ) (.ref q0.1 :: As) w) As := ⟨aj_blind, hrcv, fun U hU hW => ⟨rfl, G.warm h4 hU hW, by rw [hU]; exact h2, h3⟩⟩
  have hfr : rmc.frames + 1 ≤ (gR Γ).frames := by rw [G.room]; exact hf.1
  have hlo : 8 + (M.2.2.1 + 11) + rmc.locals ≤ (gR Γ).locals := by rw [G.room]; exact hf.2
  have hcs' : k.1 + rmc.cells ≤ (gR Γ).cells ∧ k.2 + rmc.slots ≤ (gR Γ).slots := by rw [G.room]; exact hcs
  rcases hL with hL | ⟨host, hL⟩
  · exact va_runV (Ts := []) (n := n) (ws := [Cond.code M.1 M.2.1 M.2.2.1 M.2.2.2]) ⟨G.1, G.2.1, G.maxL, G.own, fun _ h => nomatch h⟩ hM ⟨⟨rfl, rfl, hfr, hlo, G.words hw.1, List.mem_singleton_self _, G.word hw.1, G.word hw.2.1, hw.2.2.1, hw.len, G.word hL⟩, G.word hi.1, G.word hi.2⟩ hpre rfl hn h1.1 hst (by simpa using hW) d hcs'
  · exact va_runVN (Ts := []) (n := n) (ws := [Cond.code M.1 M.2.1 M.2.2.1 M.2.2.2]) ⟨G.1, G.2.1, G.maxL, G.own, fun _ h => nomatch h⟩ hM ⟨⟨⟨rfl, rfl, hfr, hlo, G.words hw.1, List.mem_singleton_self _⟩, G.word hw.1, G.word hw.2.1, hw.2.2.1, hw.len, G.word hL⟩, G.word hi.1, G.word hi.2⟩ hpre rfl hn h1.1 hst (by simpa using hW) d hcs'
theorem j_callS {M : aj_M} {rmc : Room} {n : Nat} {As st0 : List Value} {pn : Option Value → aw_W → Prop} (G : aj_ok Γ ym cc nL ret rm) (d : decode cc pc = .ok (.invokestatic index, 3)) (hM : aj_Ct (gl Γ) (gD Γ) (gA Γ) (gB Γ) M rmc As w pn)
    (hw : aw_Mw M n) (hi : Cond.static M.1 ∈ aw_ws) (hL : aw_L ym.cls index M.1) (hn : As.length = n) (hst : st0 = As.reverse ++ st) (hW : (st.map fun v => v.category).sum ≤ 8) (hf : rmc.frames + 1 ≤ rm.frames ∧ 8 + (M.2.2.1 + 11) + rmc.locals ≤ rm.locals) (hcs : k.1 + rmc.cells ≤ rm.cells ∧ k.2 + rmc.slots ≤ rm.slots)
    (kn : ∀ v w', pn v w' → aj_J Γ nL (k.1 + rmc.cells, k.2 + rmc.slots) (pc + 3) lv (v.toList ++ st) w') : aj_J Γ nL k pc lv st0 w := by
  refine j_run (pn := pn) (A := As.toArray) (mc := rmc.cells) (ms := rmc.slots) ?_ kn
  intro ls H locs h1 h2 h3 h4
  have hpre : PreS (gs Γ) H (aj_Pc (gD Γ) (gA Γ) (gB Γ) As w) As := ⟨aj_blind, fun U hU hW => ⟨rfl, G.warm h4 hU hW, by rw [hU]; exact h2, h3⟩⟩
  have hfr : rmc.frames + 1 ≤ (gR Γ).frames := by rw [G.room]; exact hf.1
  have hlo : 8 + (M.2.2.1 + 11) + rmc.locals ≤ (gR Γ).locals := by rw [G.room]; exact hf.2
  have hcs' : k.1 + rmc.cells ≤ (gR Γ).cells ∧ k.2 + rmc.slots ≤ (gR Γ).slots := by rw [G.room]; exact hcs
  rcases hL with hL | ⟨host, hL⟩
  · exact va_runS (Ts := []) (n := n) (ws := [Cond.code M.1 M.2.1 M.2.2.1 M.2.2.2]) ⟨G.1, G.2.1, G.maxL, G.own, fun _ h => nomatch h⟩ hM ⟨⟨rfl, rfl, hfr, hlo, G.words hw.1, List.mem_singleton_self _, G.word hw.1, G.word hw.2.1, hw.2.2.1, hw.len, G.word hL⟩, G.word hi⟩ hpre rfl hn h1.1 hst (by simpa using hW) d hcs'
  · exact va_runSN (Ts := []) (n := n) (ws := [Cond.code M.1 M.2.1 M.2.2.1 M.2.2.2]) ⟨G.1, G.2.1, G.maxL, G.own, fun _ h => nomatch h⟩ hM ⟨⟨⟨rfl, rfl, hfr, hlo, G.words hw.1, List.mem_singleton_self _⟩, G.word hw.1, G.word hw.2.1, hw.2.2.1, hw.len, G.word hL⟩, G.word hi, trivial⟩ hpre rfl hn h1.1 hst (by simpa using hW) d hcs'
end
end
section
/-! ===== new objects and arrays; constructors ===== -/
section
variable {Γ : aj_G} {ym : MethodName} {cc : ByteArray} {nL : Nat} {ret : Option FieldType} {rm : Room} {k : Nat × Nat} {pc : Nat} {lv : List (Nat × Value)} {st : List Value} {w w' : aw_W} {r : Option Nat} {ci kf index : Nat}
theorem aj_ok.base (G : aj_ok Γ ym cc nL ret rm) {H : Heap} {locs : List Loc} (h4 : va_S (fun q => gB Γ ≤ q) (gs Γ).heap H locs) : gB Γ ≤ H.size := Nat.le_trans G.K.2.2.2.2.2 h4.1
theorem aj_grow {H H1 : Heap} {locs : List Loc} (h4 : va_S (fun q => gB Γ ≤ q) (gs Γ).heap H locs) (hz : H.size ≤ H1.size) (o1 : ∀ q : Nat, q < H.size → H1[q]? = H[q]?) : va_S (fun q => gB Γ ≤ q) (gs Γ).heap H1 locs :=
  ⟨Nat.le_trans h4.1 hz, fun q q1 q2 => (o1 q (Nat.lt_of_lt_of_le q1 h4.1)).trans (h4.2.1 q q1 q2), h4.2.2⟩
theorem j_new {C : String} {T : u_T} {N z : Nat} {fs : List Value} (ty : Nat → FieldType) (G : aj_ok Γ ym cc nL ret rm) (d : decode cc pc = .ok (.new index, 3)) (hc : aCl[ci]? = some (C, T, N)) (hty : ∀ k, k < N → parseFieldDescriptor (T k).2.2.1 = some (ty k)) (hU : ∀ w ∈ u_ws C T N, w ∈ aw_ws) (hl : Cond.classLink ym.cls index C ∈ aw_ws) (hi : Cond.instantiable C N ∈ aw_ws) (hini : Cond.initialized C ∈ aw_ws)
    (hz : w.1 = some z) (hfs : ∀ j, j < N → defaultValue (ty j) = vp_V fs j) (hcs : k.1 + 1 ≤ rm.cells ∧ k.2 + N ≤ rm.slots) (h : aj_J Γ nL (k.1 + 1, k.2 + N) (pc + 3) lv (va_rf (some z) :: st) (aw_add w z (.inr (ci, fs)))) : aj_J Γ nL k pc lv st w := by
  intro ls H locs h1 h2 h3 h4
  have hs := h2.1 z hz
  have hKn := G.K.1.1 ci _ hc
  have hcs' : k.1 + 1 ≤ (gR Γ).cells ∧ k.2 + N ≤ (gR Γ).slots := by rw [G.room]; exact hcs
  have hts : ∀ w ∈ u_ws C T N, w.before (ga Γ) (gs Γ) = true := fun w hw => G.word (hU w hw)
  refine W.newcK G.1 G.2.1 G.own (G.word hl) (G.word hi) (G.word hini) rfl d hcs'.1 hcs'.2 hKn.2.1 hs fun H1 kC hkC e1 z1 o1 => ?_
  exact h ls H1 locs h1 (h2.add hs ⟨_, hc, (u_born ty hts (fun w hw => hw) hKn hkC e1 hty).to hfs⟩ z1 o1) (h3.add (by rw [← hs]; exact G.base h4)) (aj_grow h4 (by omega) (fun q hq => o1 q (by omega)))
theorem j_newa {atype : ArrayType} {t z N : Nat} {ty : FieldType} {n : Int32} {a0 : vp_A} (G : aj_ok Γ ym cc nL ret rm) (d : decode cc pc = .ok (.newarray atype, 2)) (hw : Cond.arrayClass (newarray.typeOf atype) ∈ aw_ws) (hty : newarray.typeOf atype = ty) (hra : (gs Γ).vm.findClass ("[" ++ ty.toString) = some (gA Γ t))
    (ha : ∀ cA : ClassId, vp_cell cA a0 = arrV cA N (fun _ => defaultValue ty)) (hn : ¬ n < 0) (hN : n.toNatClampNeg = N) (hb : N * componentBytes ty ≤ 536870912) (hz : w.1 = some z) (hcs : k.1 + 1 ≤ rm.cells ∧ k.2 + N ≤ rm.slots) (h : aj_J Γ nL (k.1 + 1, k.2 + N) (pc + 2) lv (va_rf (some z) :: st) (aw_add w z (.inl (t, a0)))) : aj_J Γ nL k pc lv (.int n :: st) w := by
  intro ls H locs h1 h2 h3 h4
  subst hty
  have hs := h2.1 z hz
  have hcs' : k.1 + 1 ≤ (gR Γ).cells ∧ k.2 + N ≤ (gR Γ).slots := by rw [G.room]; exact hcs
  refine va_newaK G.1 G.2.1 (G.word hw) rfl d rfl hn hN hb hcs'.1 hcs'.2 hs fun H1 cA e1 z1 o1 hAr hNm => ?_
  have hcA : cA = gA Γ t := Option.some.inj (hNm.symm.trans hra)
  subst hcA
  refine h ls H1 locs h1 (h2.add hs ?_ z1 o1) (h3.add (by rw [← hs]; exact G.base h4)) (aj_grow h4 (by omega) (fun q hq => o1 q (by omega)))
  show H1[z]? = some (vp_cell _ _)
  rw [ha]
  exact e1
theorem j_anew {t z N : Nat} {C : String} {n : Int32} (G : aj_ok Γ ym cc nL ret rm) (d : decode cc pc = .ok (.anewarray index, 3)) (hl : Cond.classLink ym.cls index C ∈ aw_ws) (ho : Cond.arrayOver (.object C) ∈ aw_ws) (ht : (aw_tys (gA Γ))[t]? = some (gA Γ t, .object C))
    (hn : ¬ n < 0) (hN : n.toNatClampNeg = N) (hb : N * 4 ≤ 536870912) (hz : w.1 = some z) (hcs : k.1 + 1 ≤ rm.cells ∧ k.2 + N ≤ rm.slots) (h : aj_J Γ nL (k.1 + 1, k.2 + N) (pc + 3) lv (va_rf (some z) :: st) (aw_add w z (.inl (t, N, .inr (.inr (.inr (.inr (fun _ => none)))))))) : aj_J Γ nL k pc lv (.int n :: st) w := by
  intro ls H locs h1 h2 h3 h4
  subst hN
  have hs := h2.1 z hz
  subst hs
  have hcs' : k.1 + 1 ≤ (gR Γ).cells ∧ k.2 + n.toNatClampNeg ≤ (gR Γ).slots := by rw [G.room]; exact hcs
  refine W.anew G.1 G.2.1 G.own (G.word hl) (G.word ho) rfl d rfl hn hb hcs'.1 hcs'.2 fun cA kA comp f1 f2 f3 f4 => ?_
  obtain ⟨kA', comp', g1, g2, g3, g4⟩ := (G.K.1.2 t _ ht).2
  have hcA : cA = gA Γ t := Option.some.inj (f1.symm.trans g4)
  subst hcA
  generalize hH1 : H.push ({ cls := gA Γ t, slots := Array.replicate n.toNatClampNeg .null, vm := .none } : Cell) = H1
  have z1 : H1.size = H.size + 1 := by rw [← hH1, Array.size_push]
  have e1 : H1[H.size]? = some (arrV (gA Γ t) n.toNatClampNeg (fun _ => .null)) := by rw [← hH1, Array.getElem?_push_size, ← arrV_new]
  have o1 : ∀ q : Nat, q < H.size → H1[q]? = H[q]? := fun q hq => by rw [← hH1, Array.getElem?_push, if_neg (Nat.ne_of_lt hq)]
  refine h ls H1 locs h1 (h2.add rfl ?_ z1 o1) (h3.add (G.base h4)) (aj_grow h4 (by omega) o1)
  show H1[H.size]? = some (vp_cell (gA Γ t) (n.toNatClampNeg, .inr (.inr (.inr (.inr (fun _ => none))))))
  rw [vp_cell_q]
  exact e1
theorem j_objInit {a : Nat} (G : aj_ok Γ ym cc nL ret rm) (d : decode cc pc = .ok (.invokespecial index, 3)) (hl : Cond.methodLink ym.cls index objectInit ∈ aw_ws) (hi : Cond.instanceMethod objectInit ∈ aw_ws) (hc : Cond.code objectInit ⟨#[0xb1]⟩ 1 none ∈ aw_ws) (hf : 1 ≤ rm.frames ∧ (st.map fun v => v.category).sum + 12 ≤ rm.locals) (h : aj_J Γ nL k (pc + 3) lv st w) : aj_J Γ nL k pc lv (va_rf (some a) :: st) w := by
  intro ls H locs h1 h2 h3 h4
  have hf' : 1 ≤ (gR Γ).frames ∧ (st.map fun v => v.category).sum + 12 ≤ (gR Γ).locals := by rw [G.room]; exact hf
  exact W.objInit G.1 G.2.1 G.own (G.word hl) (G.word hi) (G.word hc) rfl (h1.1.trans G.maxL.symm) rfl d hf'.1 (by simpa using hf'.2) (h ls H locs h1 h2 h3 h4)
theorem j_callI {M : aj_M} {rmc : Room} {n a : Nat} {As st0 : List Value} {pn : Option Value → aw_W → Prop} (G : aj_ok Γ ym cc nL ret rm) (d : decode cc pc = .ok (.invokespecial index, 3)) (hM : aj_Ct (gl Γ) (gD Γ) (gA Γ) (gB Γ) M rmc (.ref a :: As) w pn) (hy : M.1.name = "<init>") (hre : M.2.2.2 = none)
    (hw : aw_Mw M n) (hi : Cond.instanceMethod M.1 ∈ aw_ws) (hL : aw_L ym.cls index M.1) (hn : As.length = n) (hst : st0 = As.reverse ++ .ref a :: st) (hW : (st.map fun v => v.category).sum ≤ 8) (hf : rmc.frames + 1 ≤ rm.frames ∧ 8 + (M.2.2.1 + 11) + rmc.locals ≤ rm.locals) (hcs : k.1 + rmc.cells ≤ rm.cells ∧ k.2 + rmc.slots ≤ rm.slots)
    (kn : ∀ v w', pn v w' → aj_J Γ nL (k.1 + rmc.cells, k.2 + rmc.slots) (pc + 3) lv (v.toList ++ st) w') : aj_J Γ nL k pc lv st0 w := by
  refine j_run (pn := pn) (A := (.ref a :: As).toArray) (mc := rmc.cells) (ms := rmc.slots) ?_ kn
  intro ls H locs h1 h2 h3 h4
  have hpre : PreS (gs Γ) H (aj_Pc (gD Γ) (gA Γ) (gB Γ) (.ref a :: As) w) (.ref a :: As) := ⟨aj_blind, fun U hU hW => ⟨rfl, G.warm h4 hU hW, by rw [hU]; exact h2, h3⟩⟩
  have hfr : rmc.frames + 1 ≤ (gR Γ).frames := by rw [G.room]; exact hf.1
  have hlo : 8 + (M.2.2.1 + 11) + rmc.locals ≤ (gR Γ).locals := by rw [G.room]; exact hf.2
  have hcs' : k.1 + rmc.cells ≤ (gR Γ).cells ∧ k.2 + rmc.slots ≤ (gR Γ).slots := by rw [G.room]; exact hcs
  obtain ⟨y, bytes, maxL, rt⟩ := M
  dsimp only at hre hy
  subst hre
  rcases hL with hL | ⟨host, hL⟩
  · exact va_runI (Ts := []) (n := n) (ws := [Cond.code y bytes maxL none]) ⟨G.1, G.2.1, G.maxL, G.own, fun _ h => nomatch h⟩ hM ⟨⟨rfl, rfl, hfr, hlo, G.words hw.1, List.mem_singleton_self _, G.word hw.1, G.word hw.2.1, hw.2.2.1, hw.len, G.word hL⟩, hy, G.word hi⟩ hpre rfl hn h1.1 hst (by simpa using hW) d hcs'
  · exact va_runIN (Ts := []) (n := n) (ws := [Cond.code y bytes maxL none]) ⟨G.1, G.2.1, G.maxL, G.own, fun _ h => nomatch h⟩ hM ⟨⟨⟨rfl, rfl, hfr, hlo, G.words hw.1, List.mem_singleton_self _⟩, G.word hw.1, G.word hw.2.1, hw.2.2.1, hw.len, G.word hL⟩, hy, G.word hi⟩ hpre rfl hn h1.1 hst (by simpa using hW) d hcs'
end
end
