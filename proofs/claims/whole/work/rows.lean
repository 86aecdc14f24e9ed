section
/-- a private method of a class that the tables say can be made, by its rows of tables_1 -/
def lw_okq (q : MethodName × Nat) : Prop := (q.1.cls ≠ "java/lang/invoke/MethodHandle" ∧ q.1.cls ≠ "java/lang/invoke/VarHandle") ∧ Cond.instantiable q.1.cls q.2 ∈ tables_1 ∧ Cond.privateMethod q.1 ∈ tables_1 ∧ Cond.instanceMethod q.1 ∈ tables_1
theorem lw_p0 : lw_okq (⟨"AppendStore$StoreFile", "learnFromHint", "()Z"⟩, 6) := ⟨⟨by decide +kernel, by decide +kernel⟩, List.mem_of_getElem? (i := 34) (by decide +kernel), List.mem_of_getElem? (i := 211) (by decide +kernel), List.mem_of_getElem? (i := 212) (by decide +kernel)⟩
theorem lw_p1 : lw_okq (⟨"AppendStore$StoreFile", "note", "(IJILAppendStore$Rec;)LAppendStore$Rec;"⟩, 6) := ⟨⟨by decide +kernel, by decide +kernel⟩, List.mem_of_getElem? (i := 34) (by decide +kernel), List.mem_of_getElem? (i := 242) (by decide +kernel), List.mem_of_getElem? (i := 243) (by decide +kernel)⟩
theorem lw_p2 : lw_okq (⟨"AppendStore$StoreFile", "learnFromBytes", "()V"⟩, 6) := ⟨⟨by decide +kernel, by decide +kernel⟩, List.mem_of_getElem? (i := 34) (by decide +kernel), List.mem_of_getElem? (i := 252) (by decide +kernel), List.mem_of_getElem? (i := 253) (by decide +kernel)⟩
theorem lw_p3 : lw_okq (⟨"AppendStore$StoreFile", "soundSize", "(I)I"⟩, 6) := ⟨⟨by decide +kernel, by decide +kernel⟩, List.mem_of_getElem? (i := 34) (by decide +kernel), List.mem_of_getElem? (i := 256) (by decide +kernel), List.mem_of_getElem? (i := 257) (by decide +kernel)⟩
theorem lw_p4 : lw_okq (⟨"AppendStore", "enter", "(LAppendStore$StoreFile;)V"⟩, 5) := ⟨⟨by decide +kernel, by decide +kernel⟩, List.mem_of_getElem? (i := 19) (by decide +kernel), List.mem_of_getElem? (i := 269) (by decide +kernel), List.mem_of_getElem? (i := 270) (by decide +kernel)⟩
theorem lw_p5 : lw_okq (⟨"AppendStore$Directory", "firstFrom", "(J)I"⟩, 2) := ⟨⟨by decide +kernel, by decide +kernel⟩, List.mem_of_getElem? (i := 117) (by decide +kernel), List.mem_of_getElem? (i := 285) (by decide +kernel), List.mem_of_getElem? (i := 286) (by decide +kernel)⟩
theorem lw_p6 : lw_okq (⟨"AppendStore$Directory", "takeOut", "(I)V"⟩, 2) := ⟨⟨by decide +kernel, by decide +kernel⟩, List.mem_of_getElem? (i := 117) (by decide +kernel), List.mem_of_getElem? (i := 297) (by decide +kernel), List.mem_of_getElem? (i := 298) (by decide +kernel)⟩
theorem lw_p7 : lw_okq (⟨"AppendStore$Directory", "insert", "(ILAppendStore$Rec;)V"⟩, 2) := ⟨⟨by decide +kernel, by decide +kernel⟩, List.mem_of_getElem? (i := 117) (by decide +kernel), List.mem_of_getElem? (i := 301) (by decide +kernel), List.mem_of_getElem? (i := 302) (by decide +kernel)⟩
theorem lw_p8 : lw_okq (⟨"java/lang/Throwable", "fillInStackTrace", "(I)Ljava/lang/Throwable;"⟩, 6) := ⟨⟨by decide +kernel, by decide +kernel⟩, List.mem_of_getElem? (i := 365) (by decide +kernel), List.mem_of_getElem? (i := 363) (by decide +kernel), List.mem_of_getElem? (i := 364) (by decide +kernel)⟩
theorem lw_p9 : lw_okq (⟨"AppendStore", "checkOpen", "()V"⟩, 5) := ⟨⟨by decide +kernel, by decide +kernel⟩, List.mem_of_getElem? (i := 19) (by decide +kernel), List.mem_of_getElem? (i := 394) (by decide +kernel), List.mem_of_getElem? (i := 395) (by decide +kernel)⟩
theorem lw_p10 : lw_okq (⟨"AppendStore", "append", "(JJI)V"⟩, 5) := ⟨⟨by decide +kernel, by decide +kernel⟩, List.mem_of_getElem? (i := 19) (by decide +kernel), List.mem_of_getElem? (i := 415) (by decide +kernel), List.mem_of_getElem? (i := 416) (by decide +kernel)⟩
theorem lw_p11 : lw_okq (⟨"AppendStore$Merger", "outputFor", "(I)LAppendStore$StoreFile;"⟩, 5) := ⟨⟨by decide +kernel, by decide +kernel⟩, List.mem_of_getElem? (i := 131) (by decide +kernel), List.mem_of_getElem? (i := 632) (by decide +kernel), List.mem_of_getElem? (i := 633) (by decide +kernel)⟩
theorem lw_p12 : lw_okq (⟨"AppendStore", "rowWith", "(IIZ)LAppendStore$Octets;"⟩, 5) := ⟨⟨by decide +kernel, by decide +kernel⟩, List.mem_of_getElem? (i := 19) (by decide +kernel), List.mem_of_getElem? (i := 713) (by decide +kernel), List.mem_of_getElem? (i := 714) (by decide +kernel)⟩
theorem lw_p13 : lw_okq (⟨"AppendStoreModel", "full", "(I)Z"⟩, 29) := ⟨⟨by decide +kernel, by decide +kernel⟩, List.mem_of_getElem? (i := 728) (by decide +kernel), List.mem_of_getElem? (i := 839) (by decide +kernel), List.mem_of_getElem? (i := 840) (by decide +kernel)⟩
theorem lw_p14 : lw_okq (⟨"AppendStoreModel", "append", "(JIJI)V"⟩, 29) := ⟨⟨by decide +kernel, by decide +kernel⟩, List.mem_of_getElem? (i := 728) (by decide +kernel), List.mem_of_getElem? (i := 843) (by decide +kernel), List.mem_of_getElem? (i := 844) (by decide +kernel)⟩
theorem lw_p15 : lw_okq (⟨"AppendStoreModel", "clearRow", "(I)V"⟩, 29) := ⟨⟨by decide +kernel, by decide +kernel⟩, List.mem_of_getElem? (i := 728) (by decide +kernel), List.mem_of_getElem? (i := 847) (by decide +kernel), List.mem_of_getElem? (i := 848) (by decide +kernel)⟩
def lw_privs_1 : List (MethodName × Nat) := [(⟨"AppendStore$StoreFile", "learnFromHint", "()Z"⟩, 6), (⟨"AppendStore$StoreFile", "note", "(IJILAppendStore$Rec;)LAppendStore$Rec;"⟩, 6), (⟨"AppendStore$StoreFile", "learnFromBytes", "()V"⟩, 6), (⟨"AppendStore$StoreFile", "soundSize", "(I)I"⟩, 6), (⟨"AppendStore", "enter", "(LAppendStore$StoreFile;)V"⟩, 5), (⟨"AppendStore$Directory", "firstFrom", "(J)I"⟩, 2), (⟨"AppendStore$Directory", "takeOut", "(I)V"⟩, 2), (⟨"AppendStore$Directory", "insert", "(ILAppendStore$Rec;)V"⟩, 2), (⟨"java/lang/Throwable", "fillInStackTrace", "(I)Ljava/lang/Throwable;"⟩, 6), (⟨"AppendStore", "checkOpen", "()V"⟩, 5), (⟨"AppendStore", "append", "(JJI)V"⟩, 5), (⟨"AppendStore$Merger", "outputFor", "(I)LAppendStore$StoreFile;"⟩, 5), (⟨"AppendStore", "rowWith", "(IIZ)LAppendStore$Octets;"⟩, 5), (⟨"AppendStoreModel", "full", "(I)Z"⟩, 29), (⟨"AppendStoreModel", "append", "(JIJI)V"⟩, 29), (⟨"AppendStoreModel", "clearRow", "(I)V"⟩, 29)]
theorem lw_r1 : ∀ q ∈ lw_privs_1, lw_okq q := List.forall_mem_cons.mpr ⟨lw_p0, List.forall_mem_cons.mpr ⟨lw_p1, List.forall_mem_cons.mpr ⟨lw_p2, List.forall_mem_cons.mpr ⟨lw_p3, List.forall_mem_cons.mpr ⟨lw_p4, List.forall_mem_cons.mpr ⟨lw_p5, List.forall_mem_cons.mpr ⟨lw_p6, List.forall_mem_cons.mpr ⟨lw_p7, List.forall_mem_cons.mpr ⟨lw_p8, List.forall_mem_cons.mpr ⟨lw_p9, List.forall_mem_cons.mpr ⟨lw_p10, List.forall_mem_cons.mpr ⟨lw_p11, List.forall_mem_cons.mpr ⟨lw_p12, List.forall_mem_cons.mpr ⟨lw_p13, List.forall_mem_cons.mpr ⟨lw_p14, List.forall_mem_cons.mpr ⟨lw_p15, fun _ h => absurd h List.not_mem_nil⟩⟩⟩⟩⟩⟩⟩⟩⟩⟩⟩⟩⟩⟩⟩⟩
theorem lw_p16 : lw_okq (⟨"AppendStoreModel", "note", "(IIII)V"⟩, 29) := ⟨⟨by decide +kernel, by decide +kernel⟩, List.mem_of_getElem? (i := 728) (by decide +kernel), List.mem_of_getElem? (i := 851) (by decide +kernel), List.mem_of_getElem? (i := 852) (by decide +kernel)⟩
theorem lw_p17 : lw_okq (⟨"AppendStoreModel", "putNumber", "(IJI)V"⟩, 29) := ⟨⟨by decide +kernel, by decide +kernel⟩, List.mem_of_getElem? (i := 728) (by decide +kernel), List.mem_of_getElem? (i := 855) (by decide +kernel), List.mem_of_getElem? (i := 856) (by decide +kernel)⟩
theorem lw_p18 : lw_okq (⟨"AppendStoreModel", "putByte", "(II)V"⟩, 29) := ⟨⟨by decide +kernel, by decide +kernel⟩, List.mem_of_getElem? (i := 728) (by decide +kernel), List.mem_of_getElem? (i := 860) (by decide +kernel), List.mem_of_getElem? (i := 861) (by decide +kernel)⟩
theorem lw_p19 : lw_okq (⟨"AppendStoreModel", "set", "(JIII)V"⟩, 29) := ⟨⟨by decide +kernel, by decide +kernel⟩, List.mem_of_getElem? (i := 728) (by decide +kernel), List.mem_of_getElem? (i := 877) (by decide +kernel), List.mem_of_getElem? (i := 878) (by decide +kernel)⟩
theorem lw_p20 : lw_okq (⟨"AppendStoreModel", "find", "(JI)I"⟩, 29) := ⟨⟨by decide +kernel, by decide +kernel⟩, List.mem_of_getElem? (i := 728) (by decide +kernel), List.mem_of_getElem? (i := 881) (by decide +kernel), List.mem_of_getElem? (i := 882) (by decide +kernel)⟩
theorem lw_p21 : lw_okq (⟨"AppendStoreModel", "unset", "(JI)V"⟩, 29) := ⟨⟨by decide +kernel, by decide +kernel⟩, List.mem_of_getElem? (i := 728) (by decide +kernel), List.mem_of_getElem? (i := 889) (by decide +kernel), List.mem_of_getElem? (i := 890) (by decide +kernel)⟩
theorem lw_p22 : lw_okq (⟨"AppendStoreModel", "fail", "(I)I"⟩, 29) := ⟨⟨by decide +kernel, by decide +kernel⟩, List.mem_of_getElem? (i := 728) (by decide +kernel), List.mem_of_getElem? (i := 897) (by decide +kernel), List.mem_of_getElem? (i := 898) (by decide +kernel)⟩
theorem lw_p23 : lw_okq (⟨"AppendStoreModel", "rowOf", "(I)I"⟩, 29) := ⟨⟨by decide +kernel, by decide +kernel⟩, List.mem_of_getElem? (i := 728) (by decide +kernel), List.mem_of_getElem? (i := 901) (by decide +kernel), List.mem_of_getElem? (i := 902) (by decide +kernel)⟩
theorem lw_p24 : lw_okq (⟨"AppendStoreModel", "length", "(II)I"⟩, 29) := ⟨⟨by decide +kernel, by decide +kernel⟩, List.mem_of_getElem? (i := 728) (by decide +kernel), List.mem_of_getElem? (i := 905) (by decide +kernel), List.mem_of_getElem? (i := 906) (by decide +kernel)⟩
theorem lw_p25 : lw_okq (⟨"AppendStoreModel", "ordered", "(I)I"⟩, 29) := ⟨⟨by decide +kernel, by decide +kernel⟩, List.mem_of_getElem? (i := 728) (by decide +kernel), List.mem_of_getElem? (i := 921) (by decide +kernel), List.mem_of_getElem? (i := 922) (by decide +kernel)⟩
theorem lw_p26 : lw_okq (⟨"AppendStoreModel", "comesBefore", "(II)Z"⟩, 29) := ⟨⟨by decide +kernel, by decide +kernel⟩, List.mem_of_getElem? (i := 728) (by decide +kernel), List.mem_of_getElem? (i := 925) (by decide +kernel), List.mem_of_getElem? (i := 926) (by decide +kernel)⟩
theorem lw_p27 : lw_okq (⟨"AppendStoreModel", "letter", "(II)I"⟩, 29) := ⟨⟨by decide +kernel, by decide +kernel⟩, List.mem_of_getElem? (i := 728) (by decide +kernel), List.mem_of_getElem? (i := 929) (by decide +kernel), List.mem_of_getElem? (i := 930) (by decide +kernel)⟩
theorem lw_p28 : lw_okq (⟨"AppendStoreModel", "tells", "(I)Z"⟩, 29) := ⟨⟨by decide +kernel, by decide +kernel⟩, List.mem_of_getElem? (i := 728) (by decide +kernel), List.mem_of_getElem? (i := 945) (by decide +kernel), List.mem_of_getElem? (i := 946) (by decide +kernel)⟩
theorem lw_p29 : lw_okq (⟨"AppendStoreModel", "openHint", "(I)V"⟩, 29) := ⟨⟨by decide +kernel, by decide +kernel⟩, List.mem_of_getElem? (i := 728) (by decide +kernel), List.mem_of_getElem? (i := 949) (by decide +kernel), List.mem_of_getElem? (i := 950) (by decide +kernel)⟩
theorem lw_p30 : lw_okq (⟨"AppendStoreModel", "openRecords", "(I)V"⟩, 29) := ⟨⟨by decide +kernel, by decide +kernel⟩, List.mem_of_getElem? (i := 728) (by decide +kernel), List.mem_of_getElem? (i := 953) (by decide +kernel), List.mem_of_getElem? (i := 954) (by decide +kernel)⟩
theorem lw_p31 : lw_okq (⟨"AppendStoreModel", "isRecord", "(II)Z"⟩, 29) := ⟨⟨by decide +kernel, by decide +kernel⟩, List.mem_of_getElem? (i := 728) (by decide +kernel), List.mem_of_getElem? (i := 957) (by decide +kernel), List.mem_of_getElem? (i := 958) (by decide +kernel)⟩
def lw_privs_2 : List (MethodName × Nat) := [(⟨"AppendStoreModel", "note", "(IIII)V"⟩, 29), (⟨"AppendStoreModel", "putNumber", "(IJI)V"⟩, 29), (⟨"AppendStoreModel", "putByte", "(II)V"⟩, 29), (⟨"AppendStoreModel", "set", "(JIII)V"⟩, 29), (⟨"AppendStoreModel", "find", "(JI)I"⟩, 29), (⟨"AppendStoreModel", "unset", "(JI)V"⟩, 29), (⟨"AppendStoreModel", "fail", "(I)I"⟩, 29), (⟨"AppendStoreModel", "rowOf", "(I)I"⟩, 29), (⟨"AppendStoreModel", "length", "(II)I"⟩, 29), (⟨"AppendStoreModel", "ordered", "(I)I"⟩, 29), (⟨"AppendStoreModel", "comesBefore", "(II)Z"⟩, 29), (⟨"AppendStoreModel", "letter", "(II)I"⟩, 29), (⟨"AppendStoreModel", "tells", "(I)Z"⟩, 29), (⟨"AppendStoreModel", "openHint", "(I)V"⟩, 29), (⟨"AppendStoreModel", "openRecords", "(I)V"⟩, 29), (⟨"AppendStoreModel", "isRecord", "(II)Z"⟩, 29)]
theorem lw_r2 : ∀ q ∈ lw_privs_2, lw_okq q := List.forall_mem_cons.mpr ⟨lw_p16, List.forall_mem_cons.mpr ⟨lw_p17, List.forall_mem_cons.mpr ⟨lw_p18, List.forall_mem_cons.mpr ⟨lw_p19, List.forall_mem_cons.mpr ⟨lw_p20, List.forall_mem_cons.mpr ⟨lw_p21, List.forall_mem_cons.mpr ⟨lw_p22, List.forall_mem_cons.mpr ⟨lw_p23, List.forall_mem_cons.mpr ⟨lw_p24, List.forall_mem_cons.mpr ⟨lw_p25, List.forall_mem_cons.mpr ⟨lw_p26, List.forall_mem_cons.mpr ⟨lw_p27, List.forall_mem_cons.mpr ⟨lw_p28, List.forall_mem_cons.mpr ⟨lw_p29, List.forall_mem_cons.mpr ⟨lw_p30, List.forall_mem_cons.mpr ⟨lw_p31, fun _ h => absurd h List.not_mem_nil⟩⟩⟩⟩⟩⟩⟩⟩⟩⟩⟩⟩⟩⟩⟩⟩
theorem lw_p32 : lw_okq (⟨"AppendStoreModel", "skip", "()V"⟩, 29) := ⟨⟨by decide +kernel, by decide +kernel⟩, List.mem_of_getElem? (i := 728) (by decide +kernel), List.mem_of_getElem? (i := 965) (by decide +kernel), List.mem_of_getElem? (i := 966) (by decide +kernel)⟩
theorem lw_p33 : lw_okq (⟨"AppendStoreModel", "comeToNext", "()V"⟩, 29) := ⟨⟨by decide +kernel, by decide +kernel⟩, List.mem_of_getElem? (i := 728) (by decide +kernel), List.mem_of_getElem? (i := 969) (by decide +kernel), List.mem_of_getElem? (i := 970) (by decide +kernel)⟩
theorem lw_p34 : lw_okq (⟨"AppendStoreModel", "live", "(II)I"⟩, 29) := ⟨⟨by decide +kernel, by decide +kernel⟩, List.mem_of_getElem? (i := 728) (by decide +kernel), List.mem_of_getElem? (i := 973) (by decide +kernel), List.mem_of_getElem? (i := 974) (by decide +kernel)⟩
theorem lw_p35 : lw_okq (⟨"AppendStoreModel", "publish", "()V"⟩, 29) := ⟨⟨by decide +kernel, by decide +kernel⟩, List.mem_of_getElem? (i := 728) (by decide +kernel), List.mem_of_getElem? (i := 977) (by decide +kernel), List.mem_of_getElem? (i := 978) (by decide +kernel)⟩
theorem lw_p36 : lw_okq (⟨"AppendStoreModel", "makeHint", "(I)V"⟩, 29) := ⟨⟨by decide +kernel, by decide +kernel⟩, List.mem_of_getElem? (i := 728) (by decide +kernel), List.mem_of_getElem? (i := 982) (by decide +kernel), List.mem_of_getElem? (i := 983) (by decide +kernel)⟩
theorem lw_p37 : lw_okq (⟨"AppendStoreModel", "copyRow", "(II)V"⟩, 29) := ⟨⟨by decide +kernel, by decide +kernel⟩, List.mem_of_getElem? (i := 728) (by decide +kernel), List.mem_of_getElem? (i := 986) (by decide +kernel), List.mem_of_getElem? (i := 987) (by decide +kernel)⟩
theorem lw_p38 : lw_okq (⟨"AppendStoreModel", "liveIn", "(I)I"⟩, 29) := ⟨⟨by decide +kernel, by decide +kernel⟩, List.mem_of_getElem? (i := 728) (by decide +kernel), List.mem_of_getElem? (i := 998) (by decide +kernel), List.mem_of_getElem? (i := 999) (by decide +kernel)⟩
theorem lw_p39 : lw_okq (⟨"AppendStoreModel", "isByte", "(IIZ)Z"⟩, 29) := ⟨⟨by decide +kernel, by decide +kernel⟩, List.mem_of_getElem? (i := 728) (by decide +kernel), List.mem_of_getElem? (i := 1006) (by decide +kernel), List.mem_of_getElem? (i := 1007) (by decide +kernel)⟩
def lw_privs_3 : List (MethodName × Nat) := [(⟨"AppendStoreModel", "skip", "()V"⟩, 29), (⟨"AppendStoreModel", "comeToNext", "()V"⟩, 29), (⟨"AppendStoreModel", "live", "(II)I"⟩, 29), (⟨"AppendStoreModel", "publish", "()V"⟩, 29), (⟨"AppendStoreModel", "makeHint", "(I)V"⟩, 29), (⟨"AppendStoreModel", "copyRow", "(II)V"⟩, 29), (⟨"AppendStoreModel", "liveIn", "(I)I"⟩, 29), (⟨"AppendStoreModel", "isByte", "(IIZ)Z"⟩, 29)]
theorem lw_r3 : ∀ q ∈ lw_privs_3, lw_okq q := List.forall_mem_cons.mpr ⟨lw_p32, List.forall_mem_cons.mpr ⟨lw_p33, List.forall_mem_cons.mpr ⟨lw_p34, List.forall_mem_cons.mpr ⟨lw_p35, List.forall_mem_cons.mpr ⟨lw_p36, List.forall_mem_cons.mpr ⟨lw_p37, List.forall_mem_cons.mpr ⟨lw_p38, List.forall_mem_cons.mpr ⟨lw_p39, fun _ h => absurd h List.not_mem_nil⟩⟩⟩⟩⟩⟩⟩⟩
def lw_privs : List (MethodName × Nat) := lw_privs_1 ++ (lw_privs_2 ++ (lw_privs_3))
def lw_tbl : List Cond := k2_sels lw_privs ++ tables_1
theorem lw_privs_ok : ∀ q ∈ lw_privs, lw_okq q := by
  show ∀ q ∈ lw_privs_1 ++ (lw_privs_2 ++ (lw_privs_3)), lw_okq q
  exact List.forall_mem_append.mpr ⟨lw_r1, List.forall_mem_append.mpr ⟨lw_r2, lw_r3⟩⟩
end
section
def aR_A : String := "AppendStore"
def aR_D : String := "AppendStore$Directory"
def aR_G : String := "AppendStore$Merger"
def aR_O : String := "AppendStore$Octets"
def aR_R : String := "AppendStore$Rec"
def aR_S : String := "AppendStore$Shelf"
def aR_F : String := "AppendStore$StoreFile"
def aR_M : String := "AppendStoreModel"
def aR_K : String := "AppendStore$Key"
def aR_Y : String := "AppendStore$Layout"
def aR_L : String := "AppendStoreLaw"
def aT_A : u_T := fun k => match k with
  | 0 => ("AppendStore", "shelf", "LAppendStore$Shelf;", true)
  | 1 => ("AppendStore", "directory", "LAppendStore$Directory;", true)
  | 2 => ("AppendStore", "merger", "LAppendStore$Merger;", true)
  | 3 => ("AppendStore", "changes", "I", false)
  | _ => ("AppendStore", "closed", "Z", false)
def aY_A : Nat → FieldType := fun k => match k with
  | 0 => .object "AppendStore$Shelf"
  | 1 => .object "AppendStore$Directory"
  | 2 => .object "AppendStore$Merger"
  | 3 => .int
  | _ => .boolean
theorem aN_A : ∀ a, a < 5 → ∀ b, b < 5 → a ≠ b → (aT_A a).2.1 ≠ (aT_A b).2.1 := by decide +kernel
theorem aY_A_ok : ∀ k, k < 5 → parseFieldDescriptor (aT_A k).2.2.1 = some (aY_A k) := by decide +kernel
def aT_D : u_T := fun k => match k with
  | 0 => ("AppendStore$Directory", "rows", "[LAppendStore$Rec;", true)
  | _ => ("AppendStore$Directory", "count", "I", false)
def aY_D : Nat → FieldType := fun k => match k with
  | 0 => .array (.object "AppendStore$Rec")
  | _ => .int
theorem aN_D : ∀ a, a < 2 → ∀ b, b < 2 → a ≠ b → (aT_D a).2.1 ≠ (aT_D b).2.1 := by decide +kernel
theorem aY_D_ok : ∀ k, k < 2 → parseFieldDescriptor (aT_D k).2.2.1 = some (aY_D k) := by decide +kernel
def aT_G : u_T := fun k => match k with
  | 0 => ("AppendStore$Merger", "outputs", "[LAppendStore$StoreFile;", true)
  | 1 => ("AppendStore$Merger", "outputCount", "I", false)
  | 2 => ("AppendStore$Merger", "taken", "I", false)
  | 3 => ("AppendStore$Merger", "atFile", "I", false)
  | _ => ("AppendStore$Merger", "atRecord", "I", false)
def aY_G : Nat → FieldType := fun k => match k with
  | 0 => .array (.object "AppendStore$StoreFile")
  | 1 => .int
  | 2 => .int
  | 3 => .int
  | _ => .int
theorem aN_G : ∀ a, a < 5 → ∀ b, b < 5 → a ≠ b → (aT_G a).2.1 ≠ (aT_G b).2.1 := by decide +kernel
theorem aY_G_ok : ∀ k, k < 5 → parseFieldDescriptor (aT_G k).2.2.1 = some (aY_G k) := by decide +kernel
def aT_O : u_T := fun k => match k with
  | 0 => ("AppendStore$Octets", "cells", "[B", true)
  | _ => ("AppendStore$Octets", "size", "I", false)
def aY_O : Nat → FieldType := fun k => match k with
  | 0 => .array .byte
  | _ => .int
theorem aN_O : ∀ a, a < 2 → ∀ b, b < 2 → a ≠ b → (aT_O a).2.1 ≠ (aT_O b).2.1 := by decide +kernel
theorem aY_O_ok : ∀ k, k < 2 → parseFieldDescriptor (aT_O k).2.2.1 = some (aY_O k) := by decide +kernel
def aT_R : u_T := fun k => match k with
  | 0 => ("AppendStore$Rec", "home", "LAppendStore$StoreFile;", false)
  | 1 => ("AppendStore$Rec", "place", "I", false)
  | 2 => ("AppendStore$Rec", "rank", "J", false)
  | 3 => ("AppendStore$Rec", "valueSize", "I", false)
  | _ => ("AppendStore$Rec", "source", "LAppendStore$Rec;", false)
def aY_R : Nat → FieldType := fun k => match k with
  | 0 => .object "AppendStore$StoreFile"
  | 1 => .int
  | 2 => .long
  | 3 => .int
  | _ => .object "AppendStore$Rec"
theorem aN_R : ∀ a, a < 5 → ∀ b, b < 5 → a ≠ b → (aT_R a).2.1 ≠ (aT_R b).2.1 := by decide +kernel
theorem aY_R_ok : ∀ k, k < 5 → parseFieldDescriptor (aT_R k).2.2.1 = some (aY_R k) := by decide +kernel
def aT_S : u_T := fun k => match k with
  | 0 => ("AppendStore$Shelf", "slots", "[LAppendStore$StoreFile;", true)
  | 1 => ("AppendStore$Shelf", "count", "I", false)
  | 2 => ("AppendStore$Shelf", "active", "LAppendStore$StoreFile;", false)
  | _ => ("AppendStore$Shelf", "lastNumber", "I", false)
def aY_S : Nat → FieldType := fun k => match k with
  | 0 => .array (.object "AppendStore$StoreFile")
  | 1 => .int
  | 2 => .object "AppendStore$StoreFile"
  | _ => .int
theorem aN_S : ∀ a, a < 4 → ∀ b, b < 4 → a ≠ b → (aT_S a).2.1 ≠ (aT_S b).2.1 := by decide +kernel
theorem aY_S_ok : ∀ k, k < 4 → parseFieldDescriptor (aT_S k).2.2.1 = some (aY_S k) := by decide +kernel
def aT_F : u_T := fun k => match k with
  | 0 => ("AppendStore$StoreFile", "bytes", "LAppendStore$Octets;", true)
  | 1 => ("AppendStore$StoreFile", "hint", "LAppendStore$Octets;", true)
  | 2 => ("AppendStore$StoreFile", "records", "[LAppendStore$Rec;", true)
  | 3 => ("AppendStore$StoreFile", "recordCount", "I", false)
  | 4 => ("AppendStore$StoreFile", "number", "I", false)
  | _ => ("AppendStore$StoreFile", "synced", "I", false)
def aY_F : Nat → FieldType := fun k => match k with
  | 0 => .object "AppendStore$Octets"
  | 1 => .object "AppendStore$Octets"
  | 2 => .array (.object "AppendStore$Rec")
  | 3 => .int
  | 4 => .int
  | _ => .int
theorem aN_F : ∀ a, a < 6 → ∀ b, b < 6 → a ≠ b → (aT_F a).2.1 ≠ (aT_F b).2.1 := by decide +kernel
theorem aY_F_ok : ∀ k, k < 6 → parseFieldDescriptor (aT_F k).2.2.1 = some (aY_F k) := by decide +kernel
def aT_M : u_T := fun k => match k with
  | 0 => ("AppendStoreModel", "thrown", "I", false)
  | 1 => ("AppendStoreModel", "files", "I", false)
  | 2 => ("AppendStoreModel", "number", "[I", true)
  | 3 => ("AppendStoreModel", "size", "[I", true)
  | 4 => ("AppendStoreModel", "synced", "[I", true)
  | 5 => ("AppendStoreModel", "bytes", "[I", true)
  | 6 => ("AppendStoreModel", "hinted", "[Z", true)
  | 7 => ("AppendStoreModel", "hintSize", "[I", true)
  | 8 => ("AppendStoreModel", "hints", "[I", true)
  | 9 => ("AppendStoreModel", "count", "[I", true)
  | 10 => ("AppendStoreModel", "place", "[I", true)
  | 11 => ("AppendStoreModel", "keySize", "[I", true)
  | 12 => ("AppendStoreModel", "valueSize", "[I", true)
  | 13 => ("AppendStoreModel", "fromFile", "[I", true)
  | 14 => ("AppendStoreModel", "fromRecord", "[I", true)
  | 15 => ("AppendStoreModel", "entries", "I", false)
  | 16 => ("AppendStoreModel", "key", "[J", true)
  | 17 => ("AppendStoreModel", "sizeOf", "[I", true)
  | 18 => ("AppendStoreModel", "fileOf", "[I", true)
  | 19 => ("AppendStoreModel", "recordOf", "[I", true)
  | 20 => ("AppendStoreModel", "hasActive", "Z", false)
  | 21 => ("AppendStoreModel", "closed", "Z", false)
  | 22 => ("AppendStoreModel", "last", "I", false)
  | 23 => ("AppendStoreModel", "time", "I", false)
  | 24 => ("AppendStoreModel", "merging", "Z", false)
  | 25 => ("AppendStoreModel", "taken", "I", false)
  | 26 => ("AppendStoreModel", "atFile", "I", false)
  | 27 => ("AppendStoreModel", "atRecord", "I", false)
  | _ => ("AppendStoreModel", "made", "I", false)
def aY_M : Nat → FieldType := fun k => match k with
  | 0 => .int
  | 1 => .int
  | 2 => .array .int
  | 3 => .array .int
  | 4 => .array .int
  | 5 => .array .int
  | 6 => .array .boolean
  | 7 => .array .int
  | 8 => .array .int
  | 9 => .array .int
  | 10 => .array .int
  | 11 => .array .int
  | 12 => .array .int
  | 13 => .array .int
  | 14 => .array .int
  | 15 => .int
  | 16 => .array .long
  | 17 => .array .int
  | 18 => .array .int
  | 19 => .array .int
  | 20 => .boolean
  | 21 => .boolean
  | 22 => .int
  | 23 => .int
  | 24 => .boolean
  | 25 => .int
  | 26 => .int
  | 27 => .int
  | _ => .int
theorem aN_M : ∀ a, a < 29 → ∀ b, b < 29 → a ≠ b → (aT_M a).2.1 ≠ (aT_M b).2.1 := by decide +kernel
theorem aY_M_ok : ∀ k, k < 29 → parseFieldDescriptor (aT_M k).2.2.1 = some (aY_M k) := by decide +kernel
/-- the classes whose objects the worlds hold, by number -/
abbrev aCl : List vw_C := [(aR_A, aT_A, 5), (aR_D, aT_D, 2), (aR_G, aT_G, 5), (aR_O, aT_O, 2), (aR_R, aT_R, 5), (aR_S, aT_S, 4), (aR_F, aT_F, 6), (aR_M, aT_M, 29)]
/-- a method: its name, its code, its locals, what it answers -/
abbrev aj_M : Type := MethodName × ByteArray × Nat × Option FieldType
abbrev b_A_init : ByteArray := prog_1_method_1_code
def y_A_init : MethodName := ⟨aR_A, "<init>", "()V"⟩
abbrev m_A_init : aj_M := (y_A_init, b_A_init, 1, none)
abbrev b_A_put : ByteArray := prog_1_method_2_code
def y_A_put : MethodName := ⟨aR_A, "put", "(JIJI)V"⟩
abbrev m_A_put : aj_M := (y_A_put, b_A_put, 7, none)
abbrev b_A_delete : ByteArray := prog_1_method_3_code
def y_A_delete : MethodName := ⟨aR_A, "delete", "(JI)Z"⟩
abbrev m_A_delete : aj_M := (y_A_delete, b_A_delete, 6, (some .boolean))
abbrev b_A_get : ByteArray := prog_1_method_4_code
def y_A_get : MethodName := ⟨aR_A, "get", "(JI)J"⟩
abbrev m_A_get : aj_M := (y_A_get, b_A_get, 5, (some .long))
abbrev b_A_keys : ByteArray := prog_1_method_5_code
def y_A_keys : MethodName := ⟨aR_A, "keys", "()I"⟩
abbrev m_A_keys : aj_M := (y_A_keys, b_A_keys, 1, (some .int))
abbrev b_A_key : ByteArray := prog_1_method_6_code
def y_A_key : MethodName := ⟨aR_A, "key", "(II)J"⟩
abbrev m_A_key : aj_M := (y_A_key, b_A_key, 4, (some .long))
abbrev b_A_sync : ByteArray := prog_1_method_7_code
def y_A_sync : MethodName := ⟨aR_A, "sync", "()V"⟩
abbrev m_A_sync : aj_M := (y_A_sync, b_A_sync, 1, none)
abbrev b_A_lose : ByteArray := prog_1_method_8_code
def y_A_lose : MethodName := ⟨aR_A, "lose", "(I)V"⟩
abbrev m_A_lose : aj_M := (y_A_lose, b_A_lose, 2, none)
abbrev b_A_open : ByteArray := prog_1_method_9_code
def y_A_open : MethodName := ⟨aR_A, "open", "(Z)I"⟩
abbrev m_A_open : aj_M := (y_A_open, b_A_open, 4, (some .int))
abbrev b_A_merge : ByteArray := prog_1_method_10_code
def y_A_merge : MethodName := ⟨aR_A, "merge", "(I)Z"⟩
abbrev m_A_merge : aj_M := (y_A_merge, b_A_merge, 2, (some .boolean))
abbrev b_A_files : ByteArray := prog_1_method_11_code
def y_A_files : MethodName := ⟨aR_A, "files", "()I"⟩
abbrev m_A_files : aj_M := (y_A_files, b_A_files, 1, (some .int))
abbrev b_A_file : ByteArray := prog_1_method_12_code
def y_A_file : MethodName := ⟨aR_A, "file", "(II)I"⟩
abbrev m_A_file : aj_M := (y_A_file, b_A_file, 4, (some .int))
abbrev b_A_octet : ByteArray := prog_1_method_13_code
def y_A_octet : MethodName := ⟨aR_A, "octet", "(IIZ)I"⟩
abbrev m_A_octet : aj_M := (y_A_octet, b_A_octet, 4, (some .int))
abbrev b_A_spoil : ByteArray := prog_1_method_14_code
def y_A_spoil : MethodName := ⟨aR_A, "spoil", "(IIZI)V"⟩
abbrev m_A_spoil : aj_M := (y_A_spoil, b_A_spoil, 6, none)
abbrev b_A_checkOpen : ByteArray := prog_1_method_15_code
def y_A_checkOpen : MethodName := ⟨aR_A, "checkOpen", "()V"⟩
abbrev m_A_checkOpen : aj_M := (y_A_checkOpen, b_A_checkOpen, 1, none)
abbrev b_A_checkRange : ByteArray := prog_1_method_16_code
def y_A_checkRange : MethodName := ⟨aR_A, "checkRange", "(III)V"⟩
abbrev m_A_checkRange : aj_M := (y_A_checkRange, b_A_checkRange, 3, none)
abbrev b_A_rowWith : ByteArray := prog_1_method_17_code
def y_A_rowWith : MethodName := ⟨aR_A, "rowWith", "(IIZ)LAppendStore$Octets;"⟩
abbrev m_A_rowWith : aj_M := (y_A_rowWith, b_A_rowWith, 6, (some (.object "AppendStore$Octets")))
abbrev b_A_append : ByteArray := prog_1_method_18_code
def y_A_append : MethodName := ⟨aR_A, "append", "(JJI)V"⟩
abbrev m_A_append : aj_M := (y_A_append, b_A_append, 7, none)
abbrev b_A_enter : ByteArray := prog_1_method_19_code
def y_A_enter : MethodName := ⟨aR_A, "enter", "(LAppendStore$StoreFile;)V"⟩
abbrev m_A_enter : aj_M := (y_A_enter, b_A_enter, 4, none)
abbrev b_M_init : ByteArray := prog_11_method_1_code
def y_M_init : MethodName := ⟨aR_M, "<init>", "()V"⟩
abbrev m_M_init : aj_M := (y_M_init, b_M_init, 1, none)
abbrev b_M_thrown : ByteArray := prog_11_method_2_code
def y_M_thrown : MethodName := ⟨aR_M, "thrown", "()I"⟩
abbrev m_M_thrown : aj_M := (y_M_thrown, b_M_thrown, 1, (some .int))
abbrev b_M_in : ByteArray := prog_11_method_3_code
def y_M_in : MethodName := ⟨aR_M, "in", "(III)Z"⟩
abbrev m_M_in : aj_M := (y_M_in, b_M_in, 3, (some .boolean))
abbrev b_M_fail : ByteArray := prog_11_method_4_code
def y_M_fail : MethodName := ⟨aR_M, "fail", "(I)I"⟩
abbrev m_M_fail : aj_M := (y_M_fail, b_M_fail, 2, (some .int))
abbrev b_M_summed : ByteArray := prog_11_method_5_code
def y_M_summed : MethodName := ⟨aR_M, "summed", "(JI)J"⟩
abbrev m_M_summed : aj_M := (y_M_summed, b_M_summed, 6, (some .long))
abbrev b_M_sumOf : ByteArray := prog_11_method_6_code
def y_M_sumOf : MethodName := ⟨aR_M, "sumOf", "([III)J"⟩
abbrev m_M_sumOf : aj_M := (y_M_sumOf, b_M_sumOf, 6, (some .long))
abbrev b_M_numberIn : ByteArray := prog_11_method_7_code
def y_M_numberIn : MethodName := ⟨aR_M, "numberIn", "([III)J"⟩
abbrev m_M_numberIn : aj_M := (y_M_numberIn, b_M_numberIn, 6, (some .long))
abbrev b_M_cut : ByteArray := prog_11_method_8_code
def y_M_cut : MethodName := ⟨aR_M, "cut", "(JI)J"⟩
abbrev m_M_cut : aj_M := (y_M_cut, b_M_cut, 6, (some .long))
abbrev b_M_lengthOf : ByteArray := prog_11_method_9_code
def y_M_lengthOf : MethodName := ⟨aR_M, "lengthOf", "(II)I"⟩
abbrev m_M_lengthOf : aj_M := (y_M_lengthOf, b_M_lengthOf, 2, (some .int))
abbrev b_M_length : ByteArray := prog_11_method_10_code
def y_M_length : MethodName := ⟨aR_M, "length", "(II)I"⟩
abbrev m_M_length : aj_M := (y_M_length, b_M_length, 3, (some .int))
abbrev b_M_note : ByteArray := prog_11_method_11_code
def y_M_note : MethodName := ⟨aR_M, "note", "(IIII)V"⟩
abbrev m_M_note : aj_M := (y_M_note, b_M_note, 6, none)
abbrev b_M_clearRow : ByteArray := prog_11_method_12_code
def y_M_clearRow : MethodName := ⟨aR_M, "clearRow", "(I)V"⟩
abbrev m_M_clearRow : aj_M := (y_M_clearRow, b_M_clearRow, 2, none)
abbrev b_M_copyRow : ByteArray := prog_11_method_13_code
def y_M_copyRow : MethodName := ⟨aR_M, "copyRow", "(II)V"⟩
abbrev m_M_copyRow : aj_M := (y_M_copyRow, b_M_copyRow, 4, none)
abbrev b_M_find : ByteArray := prog_11_method_14_code
def y_M_find : MethodName := ⟨aR_M, "find", "(JI)I"⟩
abbrev m_M_find : aj_M := (y_M_find, b_M_find, 5, (some .int))
abbrev b_M_set : ByteArray := prog_11_method_15_code
def y_M_set : MethodName := ⟨aR_M, "set", "(JIII)V"⟩
abbrev m_M_set : aj_M := (y_M_set, b_M_set, 7, none)
abbrev b_M_unset : ByteArray := prog_11_method_16_code
def y_M_unset : MethodName := ⟨aR_M, "unset", "(JI)V"⟩
abbrev m_M_unset : aj_M := (y_M_unset, b_M_unset, 5, none)
abbrev b_M_live : ByteArray := prog_11_method_17_code
def y_M_live : MethodName := ⟨aR_M, "live", "(II)I"⟩
abbrev m_M_live : aj_M := (y_M_live, b_M_live, 4, (some .int))
abbrev b_M_rowOf : ByteArray := prog_11_method_18_code
def y_M_rowOf : MethodName := ⟨aR_M, "rowOf", "(I)I"⟩
abbrev m_M_rowOf : aj_M := (y_M_rowOf, b_M_rowOf, 3, (some .int))
abbrev b_M_letter : ByteArray := prog_11_method_19_code
def y_M_letter : MethodName := ⟨aR_M, "letter", "(II)I"⟩
abbrev m_M_letter : aj_M := (y_M_letter, b_M_letter, 3, (some .int))
abbrev b_M_ordered : ByteArray := prog_11_method_20_code
def y_M_ordered : MethodName := ⟨aR_M, "ordered", "(I)I"⟩
abbrev m_M_ordered : aj_M := (y_M_ordered, b_M_ordered, 5, (some .int))
abbrev b_M_comesBefore : ByteArray := prog_11_method_21_code
def y_M_comesBefore : MethodName := ⟨aR_M, "comesBefore", "(II)Z"⟩
abbrev m_M_comesBefore : aj_M := (y_M_comesBefore, b_M_comesBefore, 4, (some .boolean))
abbrev b_M_full : ByteArray := prog_11_method_22_code
def y_M_full : MethodName := ⟨aR_M, "full", "(I)Z"⟩
abbrev m_M_full : aj_M := (y_M_full, b_M_full, 2, (some .boolean))
abbrev b_M_putByte : ByteArray := prog_11_method_23_code
def y_M_putByte : MethodName := ⟨aR_M, "putByte", "(II)V"⟩
abbrev m_M_putByte : aj_M := (y_M_putByte, b_M_putByte, 3, none)
abbrev b_M_putNumber : ByteArray := prog_11_method_24_code
def y_M_putNumber : MethodName := ⟨aR_M, "putNumber", "(IJI)V"⟩
abbrev m_M_putNumber : aj_M := (y_M_putNumber, b_M_putNumber, 6, none)
abbrev b_M_append : ByteArray := prog_11_method_25_code
def y_M_append : MethodName := ⟨aR_M, "append", "(JIJI)V"⟩
abbrev m_M_append : aj_M := (y_M_append, b_M_append, 13, none)
abbrev b_M_put : ByteArray := prog_11_method_26_code
def y_M_put : MethodName := ⟨aR_M, "put", "(JIJI)V"⟩
abbrev m_M_put : aj_M := (y_M_put, b_M_put, 7, none)
abbrev b_M_delete : ByteArray := prog_11_method_27_code
def y_M_delete : MethodName := ⟨aR_M, "delete", "(JI)Z"⟩
abbrev m_M_delete : aj_M := (y_M_delete, b_M_delete, 4, (some .boolean))
abbrev b_M_get : ByteArray := prog_11_method_28_code
def y_M_get : MethodName := ⟨aR_M, "get", "(JI)J"⟩
abbrev m_M_get : aj_M := (y_M_get, b_M_get, 8, (some .long))
abbrev b_M_keys : ByteArray := prog_11_method_29_code
def y_M_keys : MethodName := ⟨aR_M, "keys", "()I"⟩
abbrev m_M_keys : aj_M := (y_M_keys, b_M_keys, 1, (some .int))
abbrev b_M_key : ByteArray := prog_11_method_30_code
def y_M_key : MethodName := ⟨aR_M, "key", "(II)J"⟩
abbrev m_M_key : aj_M := (y_M_key, b_M_key, 5, (some .long))
abbrev b_M_sync : ByteArray := prog_11_method_31_code
def y_M_sync : MethodName := ⟨aR_M, "sync", "()V"⟩
abbrev m_M_sync : aj_M := (y_M_sync, b_M_sync, 1, none)
abbrev b_M_lose : ByteArray := prog_11_method_32_code
def y_M_lose : MethodName := ⟨aR_M, "lose", "(I)V"⟩
abbrev m_M_lose : aj_M := (y_M_lose, b_M_lose, 4, none)
abbrev b_M_tells : ByteArray := prog_11_method_33_code
def y_M_tells : MethodName := ⟨aR_M, "tells", "(I)Z"⟩
abbrev m_M_tells : aj_M := (y_M_tells, b_M_tells, 8, (some .boolean))
abbrev b_M_isRecord : ByteArray := prog_11_method_34_code
def y_M_isRecord : MethodName := ⟨aR_M, "isRecord", "(II)Z"⟩
abbrev m_M_isRecord : aj_M := (y_M_isRecord, b_M_isRecord, 7, (some .boolean))
abbrev b_M_openRecords : ByteArray := prog_11_method_35_code
def y_M_openRecords : MethodName := ⟨aR_M, "openRecords", "(I)V"⟩
abbrev m_M_openRecords : aj_M := (y_M_openRecords, b_M_openRecords, 7, none)
abbrev b_M_openHint : ByteArray := prog_11_method_36_code
def y_M_openHint : MethodName := ⟨aR_M, "openHint", "(I)V"⟩
abbrev m_M_openHint : aj_M := (y_M_openHint, b_M_openHint, 5, none)
abbrev b_M_open : ByteArray := prog_11_method_37_code
def y_M_open : MethodName := ⟨aR_M, "open", "(Z)I"⟩
abbrev m_M_open : aj_M := (y_M_open, b_M_open, 3, (some .int))
abbrev b_M_skip : ByteArray := prog_11_method_38_code
def y_M_skip : MethodName := ⟨aR_M, "skip", "()V"⟩
abbrev m_M_skip : aj_M := (y_M_skip, b_M_skip, 1, none)
abbrev b_M_comeToNext : ByteArray := prog_11_method_39_code
def y_M_comeToNext : MethodName := ⟨aR_M, "comeToNext", "()V"⟩
abbrev m_M_comeToNext : aj_M := (y_M_comeToNext, b_M_comeToNext, 6, none)
abbrev b_M_makeHint : ByteArray := prog_11_method_40_code
def y_M_makeHint : MethodName := ⟨aR_M, "makeHint", "(I)V"⟩
abbrev m_M_makeHint : aj_M := (y_M_makeHint, b_M_makeHint, 7, none)
abbrev b_M_publish : ByteArray := prog_11_method_41_code
def y_M_publish : MethodName := ⟨aR_M, "publish", "()V"⟩
abbrev m_M_publish : aj_M := (y_M_publish, b_M_publish, 5, none)
abbrev b_M_merge : ByteArray := prog_11_method_42_code
def y_M_merge : MethodName := ⟨aR_M, "merge", "(I)Z"⟩
abbrev m_M_merge : aj_M := (y_M_merge, b_M_merge, 4, (some .boolean))
abbrev b_M_files : ByteArray := prog_11_method_43_code
def y_M_files : MethodName := ⟨aR_M, "files", "()I"⟩
abbrev m_M_files : aj_M := (y_M_files, b_M_files, 1, (some .int))
abbrev b_M_file : ByteArray := prog_11_method_44_code
def y_M_file : MethodName := ⟨aR_M, "file", "(II)I"⟩
abbrev m_M_file : aj_M := (y_M_file, b_M_file, 3, (some .int))
abbrev b_M_liveIn : ByteArray := prog_11_method_45_code
def y_M_liveIn : MethodName := ⟨aR_M, "liveIn", "(I)I"⟩
abbrev m_M_liveIn : aj_M := (y_M_liveIn, b_M_liveIn, 4, (some .int))
abbrev b_M_isByte : ByteArray := prog_11_method_46_code
def y_M_isByte : MethodName := ⟨aR_M, "isByte", "(IIZ)Z"⟩
abbrev m_M_isByte : aj_M := (y_M_isByte, b_M_isByte, 4, (some .boolean))
abbrev b_M_octet : ByteArray := prog_11_method_47_code
def y_M_octet : MethodName := ⟨aR_M, "octet", "(IIZ)I"⟩
abbrev m_M_octet : aj_M := (y_M_octet, b_M_octet, 4, (some .int))
abbrev b_M_spoil : ByteArray := prog_11_method_48_code
def y_M_spoil : MethodName := ⟨aR_M, "spoil", "(IIZI)V"⟩
abbrev m_M_spoil : aj_M := (y_M_spoil, b_M_spoil, 5, none)
abbrev b_D_init : ByteArray := prog_2_method_1_code
def y_D_init : MethodName := ⟨aR_D, "<init>", "()V"⟩
abbrev m_D_init : aj_M := (y_D_init, b_D_init, 1, none)
abbrev b_D_count : ByteArray := prog_2_method_2_code
def y_D_count : MethodName := ⟨aR_D, "count", "()I"⟩
abbrev m_D_count : aj_M := (y_D_count, b_D_count, 1, (some .int))
abbrev b_D_clear : ByteArray := prog_2_method_3_code
def y_D_clear : MethodName := ⟨aR_D, "clear", "()V"⟩
abbrev m_D_clear : aj_M := (y_D_clear, b_D_clear, 1, none)
abbrev b_D_at : ByteArray := prog_2_method_4_code
def y_D_at : MethodName := ⟨aR_D, "at", "(I)LAppendStore$Rec;"⟩
abbrev m_D_at : aj_M := (y_D_at, b_D_at, 2, (some (.object "AppendStore$Rec")))
abbrev b_D_find : ByteArray := prog_2_method_5_code
def y_D_find : MethodName := ⟨aR_D, "find", "(J)LAppendStore$Rec;"⟩
abbrev m_D_find : aj_M := (y_D_find, b_D_find, 4, (some (.object "AppendStore$Rec")))
abbrev b_D_has : ByteArray := prog_2_method_6_code
def y_D_has : MethodName := ⟨aR_D, "has", "(LAppendStore$Rec;)Z"⟩
abbrev m_D_has : aj_M := (y_D_has, b_D_has, 2, (some .boolean))
abbrev b_D_enter : ByteArray := prog_2_method_7_code
def y_D_enter : MethodName := ⟨aR_D, "enter", "(LAppendStore$Rec;)V"⟩
abbrev m_D_enter : aj_M := (y_D_enter, b_D_enter, 5, none)
abbrev b_D_replace : ByteArray := prog_2_method_8_code
def y_D_replace : MethodName := ⟨aR_D, "replace", "(LAppendStore$Rec;LAppendStore$Rec;)V"⟩
abbrev m_D_replace : aj_M := (y_D_replace, b_D_replace, 3, none)
abbrev b_D_firstFrom : ByteArray := prog_2_method_9_code
def y_D_firstFrom : MethodName := ⟨aR_D, "firstFrom", "(J)I"⟩
abbrev m_D_firstFrom : aj_M := (y_D_firstFrom, b_D_firstFrom, 4, (some .int))
abbrev b_D_insert : ByteArray := prog_2_method_10_code
def y_D_insert : MethodName := ⟨aR_D, "insert", "(ILAppendStore$Rec;)V"⟩
abbrev m_D_insert : aj_M := (y_D_insert, b_D_insert, 4, none)
abbrev b_D_takeOut : ByteArray := prog_2_method_11_code
def y_D_takeOut : MethodName := ⟨aR_D, "takeOut", "(I)V"⟩
abbrev m_D_takeOut : aj_M := (y_D_takeOut, b_D_takeOut, 3, none)
abbrev b_K_rank : ByteArray := prog_3_method_2_code
def y_K_rank : MethodName := ⟨aR_K, "rank", "(JI)J"⟩
abbrev m_K_rank : aj_M := (y_K_rank, b_K_rank, 5, (some .long))
abbrev b_K_size : ByteArray := prog_3_method_3_code
def y_K_size : MethodName := ⟨aR_K, "size", "(J)I"⟩
abbrev m_K_size : aj_M := (y_K_size, b_K_size, 2, (some .int))
abbrev b_K_number : ByteArray := prog_3_method_4_code
def y_K_number : MethodName := ⟨aR_K, "number", "(J)J"⟩
abbrev m_K_number : aj_M := (y_K_number, b_K_number, 2, (some .long))
abbrev b_K_missingBits : ByteArray := prog_3_method_5_code
def y_K_missingBits : MethodName := ⟨aR_K, "missingBits", "(I)I"⟩
abbrev m_K_missingBits : aj_M := (y_K_missingBits, b_K_missingBits, 1, (some .int))
abbrev b_Y_valueBytes : ByteArray := prog_4_method_2_code
def y_Y_valueBytes : MethodName := ⟨aR_Y, "valueBytes", "(I)I"⟩
abbrev m_Y_valueBytes : aj_M := (y_Y_valueBytes, b_Y_valueBytes, 1, (some .int))
abbrev b_Y_recordBytes : ByteArray := prog_4_method_3_code
def y_Y_recordBytes : MethodName := ⟨aR_Y, "recordBytes", "(II)I"⟩
abbrev m_Y_recordBytes : aj_M := (y_Y_recordBytes, b_Y_recordBytes, 2, (some .int))
abbrev b_Y_isKeySize : ByteArray := prog_4_method_4_code
def y_Y_isKeySize : MethodName := ⟨aR_Y, "isKeySize", "(I)Z"⟩
abbrev m_Y_isKeySize : aj_M := (y_Y_isKeySize, b_Y_isKeySize, 1, (some .boolean))
abbrev b_Y_isValueSize : ByteArray := prog_4_method_5_code
def y_Y_isValueSize : MethodName := ⟨aR_Y, "isValueSize", "(I)Z"⟩
abbrev m_Y_isValueSize : aj_M := (y_Y_isValueSize, b_Y_isValueSize, 1, (some .boolean))
abbrev b_G_init : ByteArray := prog_5_method_1_code
def y_G_init : MethodName := ⟨aR_G, "<init>", "()V"⟩
abbrev m_G_init : aj_M := (y_G_init, b_G_init, 2, none)
abbrev b_G_goesOn : ByteArray := prog_5_method_2_code
def y_G_goesOn : MethodName := ⟨aR_G, "goesOn", "()Z"⟩
abbrev m_G_goesOn : aj_M := (y_G_goesOn, b_G_goesOn, 1, (some .boolean))
abbrev b_G_begin : ByteArray := prog_5_method_3_code
def y_G_begin : MethodName := ⟨aR_G, "begin", "(I)V"⟩
abbrev m_G_begin : aj_M := (y_G_begin, b_G_begin, 2, none)
abbrev b_G_drop : ByteArray := prog_5_method_4_code
def y_G_drop : MethodName := ⟨aR_G, "drop", "()V"⟩
abbrev m_G_drop : aj_M := (y_G_drop, b_G_drop, 1, none)
abbrev b_G_advance : ByteArray := prog_5_method_5_code
def y_G_advance : MethodName := ⟨aR_G, "advance", "(ILAppendStore$Shelf;LAppendStore$Directory;)V"⟩
abbrev m_G_advance : aj_M := (y_G_advance, b_G_advance, 7, none)
abbrev b_G_cameToAll : ByteArray := prog_5_method_6_code
def y_G_cameToAll : MethodName := ⟨aR_G, "cameToAll", "(LAppendStore$Shelf;)Z"⟩
abbrev m_G_cameToAll : aj_M := (y_G_cameToAll, b_G_cameToAll, 3, (some .boolean))
abbrev b_G_publish : ByteArray := prog_5_method_7_code
def y_G_publish : MethodName := ⟨aR_G, "publish", "(LAppendStore$Shelf;LAppendStore$Directory;)V"⟩
abbrev m_G_publish : aj_M := (y_G_publish, b_G_publish, 6, none)
abbrev b_G_pointToCopies : ByteArray := prog_5_method_8_code
def y_G_pointToCopies : MethodName := ⟨aR_G, "pointToCopies", "(LAppendStore$StoreFile;LAppendStore$Directory;)V"⟩
abbrev m_G_pointToCopies : aj_M := (y_G_pointToCopies, b_G_pointToCopies, 4, none)
abbrev b_G_outputFor : ByteArray := prog_5_method_9_code
def y_G_outputFor : MethodName := ⟨aR_G, "outputFor", "(I)LAppendStore$StoreFile;"⟩
abbrev m_G_outputFor : aj_M := (y_G_outputFor, b_G_outputFor, 3, (some (.object "AppendStore$StoreFile")))
abbrev b_O_init : ByteArray := prog_6_method_1_code
def y_O_init : MethodName := ⟨aR_O, "<init>", "(I)V"⟩
abbrev m_O_init : aj_M := (y_O_init, b_O_init, 2, none)
abbrev b_O_size : ByteArray := prog_6_method_2_code
def y_O_size : MethodName := ⟨aR_O, "size", "()I"⟩
abbrev m_O_size : aj_M := (y_O_size, b_O_size, 1, (some .int))
abbrev b_O_has : ByteArray := prog_6_method_3_code
def y_O_has : MethodName := ⟨aR_O, "has", "(I)Z"⟩
abbrev m_O_has : aj_M := (y_O_has, b_O_has, 2, (some .boolean))
abbrev b_O_hasRoomFor : ByteArray := prog_6_method_4_code
def y_O_hasRoomFor : MethodName := ⟨aR_O, "hasRoomFor", "(I)Z"⟩
abbrev m_O_hasRoomFor : aj_M := (y_O_hasRoomFor, b_O_hasRoomFor, 2, (some .boolean))
abbrev b_O_at : ByteArray := prog_6_method_5_code
def y_O_at : MethodName := ⟨aR_O, "at", "(I)I"⟩
abbrev m_O_at : aj_M := (y_O_at, b_O_at, 2, (some .int))
abbrev b_O_set : ByteArray := prog_6_method_6_code
def y_O_set : MethodName := ⟨aR_O, "set", "(II)V"⟩
abbrev m_O_set : aj_M := (y_O_set, b_O_set, 3, none)
abbrev b_O_cutTo : ByteArray := prog_6_method_7_code
def y_O_cutTo : MethodName := ⟨aR_O, "cutTo", "(I)V"⟩
abbrev m_O_cutTo : aj_M := (y_O_cutTo, b_O_cutTo, 2, none)
abbrev b_O_addByte : ByteArray := prog_6_method_8_code
def y_O_addByte : MethodName := ⟨aR_O, "addByte", "(I)V"⟩
abbrev m_O_addByte : aj_M := (y_O_addByte, b_O_addByte, 2, none)
abbrev b_O_addNumber : ByteArray := prog_6_method_9_code
def y_O_addNumber : MethodName := ⟨aR_O, "addNumber", "(JI)V"⟩
abbrev m_O_addNumber : aj_M := (y_O_addNumber, b_O_addNumber, 5, none)
abbrev b_O_addFrom : ByteArray := prog_6_method_10_code
def y_O_addFrom : MethodName := ⟨aR_O, "addFrom", "(LAppendStore$Octets;II)V"⟩
abbrev m_O_addFrom : aj_M := (y_O_addFrom, b_O_addFrom, 5, none)
abbrev b_O_number : ByteArray := prog_6_method_11_code
def y_O_number : MethodName := ⟨aR_O, "number", "(II)J"⟩
abbrev m_O_number : aj_M := (y_O_number, b_O_number, 6, (some .long))
abbrev b_O_setSum : ByteArray := prog_6_method_12_code
def y_O_setSum : MethodName := ⟨aR_O, "setSum", "(IJ)V"⟩
abbrev m_O_setSum : aj_M := (y_O_setSum, b_O_setSum, 5, none)
abbrev b_O_sum : ByteArray := prog_6_method_13_code
def y_O_sum : MethodName := ⟨aR_O, "sum", "(II)J"⟩
abbrev m_O_sum : aj_M := (y_O_sum, b_O_sum, 6, (some .long))
abbrev b_R_init : ByteArray := prog_7_method_1_code
def y_R_init : MethodName := ⟨aR_R, "<init>", "()V"⟩
abbrev m_R_init : aj_M := (y_R_init, b_R_init, 1, none)
abbrev b_R_isTombstone : ByteArray := prog_7_method_2_code
def y_R_isTombstone : MethodName := ⟨aR_R, "isTombstone", "()Z"⟩
abbrev m_R_isTombstone : aj_M := (y_R_isTombstone, b_R_isTombstone, 1, (some .boolean))
abbrev b_R_keySize : ByteArray := prog_7_method_3_code
def y_R_keySize : MethodName := ⟨aR_R, "keySize", "()I"⟩
abbrev m_R_keySize : aj_M := (y_R_keySize, b_R_keySize, 1, (some .int))
abbrev b_R_size : ByteArray := prog_7_method_4_code
def y_R_size : MethodName := ⟨aR_R, "size", "()I"⟩
abbrev m_R_size : aj_M := (y_R_size, b_R_size, 1, (some .int))
abbrev b_R_fileNumber : ByteArray := prog_7_method_5_code
def y_R_fileNumber : MethodName := ⟨aR_R, "fileNumber", "()I"⟩
abbrev m_R_fileNumber : aj_M := (y_R_fileNumber, b_R_fileNumber, 1, (some .int))
abbrev b_R_isBroken : ByteArray := prog_7_method_6_code
def y_R_isBroken : MethodName := ⟨aR_R, "isBroken", "()Z"⟩
abbrev m_R_isBroken : aj_M := (y_R_isBroken, b_R_isBroken, 1, (some .boolean))
abbrev b_R_value : ByteArray := prog_7_method_7_code
def y_R_value : MethodName := ⟨aR_R, "value", "()J"⟩
abbrev m_R_value : aj_M := (y_R_value, b_R_value, 1, (some .long))
abbrev b_R_addBytesTo : ByteArray := prog_7_method_8_code
def y_R_addBytesTo : MethodName := ⟨aR_R, "addBytesTo", "(LAppendStore$Octets;)V"⟩
abbrev m_R_addBytesTo : aj_M := (y_R_addBytesTo, b_R_addBytesTo, 2, none)
abbrev b_S_init : ByteArray := prog_8_method_1_code
def y_S_init : MethodName := ⟨aR_S, "<init>", "()V"⟩
abbrev m_S_init : aj_M := (y_S_init, b_S_init, 2, none)
abbrev b_S_count : ByteArray := prog_8_method_2_code
def y_S_count : MethodName := ⟨aR_S, "count", "()I"⟩
abbrev m_S_count : aj_M := (y_S_count, b_S_count, 1, (some .int))
abbrev b_S_at : ByteArray := prog_8_method_3_code
def y_S_at : MethodName := ⟨aR_S, "at", "(I)LAppendStore$StoreFile;"⟩
abbrev m_S_at : aj_M := (y_S_at, b_S_at, 2, (some (.object "AppendStore$StoreFile")))
abbrev b_S_sealedCount : ByteArray := prog_8_method_4_code
def y_S_sealedCount : MethodName := ⟨aR_S, "sealedCount", "()I"⟩
abbrev m_S_sealedCount : aj_M := (y_S_sealedCount, b_S_sealedCount, 1, (some .int))
abbrev b_S_withRoomFor : ByteArray := prog_8_method_5_code
def y_S_withRoomFor : MethodName := ⟨aR_S, "withRoomFor", "(I)LAppendStore$StoreFile;"⟩
abbrev m_S_withRoomFor : aj_M := (y_S_withRoomFor, b_S_withRoomFor, 2, (some (.object "AppendStore$StoreFile")))
abbrev b_S_syncActive : ByteArray := prog_8_method_6_code
def y_S_syncActive : MethodName := ⟨aR_S, "syncActive", "()V"⟩
abbrev m_S_syncActive : aj_M := (y_S_syncActive, b_S_syncActive, 1, none)
abbrev b_S_sealActive : ByteArray := prog_8_method_7_code
def y_S_sealActive : MethodName := ⟨aR_S, "sealActive", "()V"⟩
abbrev m_S_sealActive : aj_M := (y_S_sealActive, b_S_sealActive, 1, none)
abbrev b_S_losePower : ByteArray := prog_8_method_8_code
def y_S_losePower : MethodName := ⟨aR_S, "losePower", "(I)V"⟩
abbrev m_S_losePower : aj_M := (y_S_losePower, b_S_losePower, 2, none)
abbrev b_S_exchange : ByteArray := prog_8_method_9_code
def y_S_exchange : MethodName := ⟨aR_S, "exchange", "(ILAppendStore$StoreFile;)LAppendStore$StoreFile;"⟩
abbrev m_S_exchange : aj_M := (y_S_exchange, b_S_exchange, 4, (some (.object "AppendStore$StoreFile")))
abbrev b_S_takeOut : ByteArray := prog_8_method_10_code
def y_S_takeOut : MethodName := ⟨aR_S, "takeOut", "(I)V"⟩
abbrev m_S_takeOut : aj_M := (y_S_takeOut, b_S_takeOut, 4, none)
abbrev b_F_init : ByteArray := prog_9_method_1_code
def y_F_init : MethodName := ⟨aR_F, "<init>", "()V"⟩
abbrev m_F_init : aj_M := (y_F_init, b_F_init, 2, none)
abbrev b_F_begin : ByteArray := prog_9_method_2_code
def y_F_begin : MethodName := ⟨aR_F, "begin", "(I)V"⟩
abbrev m_F_begin : aj_M := (y_F_begin, b_F_begin, 2, none)
abbrev b_F_number : ByteArray := prog_9_method_3_code
def y_F_number : MethodName := ⟨aR_F, "number", "()I"⟩
abbrev m_F_number : aj_M := (y_F_number, b_F_number, 1, (some .int))
abbrev b_F_synced : ByteArray := prog_9_method_4_code
def y_F_synced : MethodName := ⟨aR_F, "synced", "()I"⟩
abbrev m_F_synced : aj_M := (y_F_synced, b_F_synced, 1, (some .int))
abbrev b_F_bytes : ByteArray := prog_9_method_5_code
def y_F_bytes : MethodName := ⟨aR_F, "bytes", "()LAppendStore$Octets;"⟩
abbrev m_F_bytes : aj_M := (y_F_bytes, b_F_bytes, 1, (some (.object "AppendStore$Octets")))
abbrev b_F_hint : ByteArray := prog_9_method_6_code
def y_F_hint : MethodName := ⟨aR_F, "hint", "()LAppendStore$Octets;"⟩
abbrev m_F_hint : aj_M := (y_F_hint, b_F_hint, 1, (some (.object "AppendStore$Octets")))
abbrev b_F_recordCount : ByteArray := prog_9_method_7_code
def y_F_recordCount : MethodName := ⟨aR_F, "recordCount", "()I"⟩
abbrev m_F_recordCount : aj_M := (y_F_recordCount, b_F_recordCount, 1, (some .int))
abbrev b_F_record : ByteArray := prog_9_method_8_code
def y_F_record : MethodName := ⟨aR_F, "record", "(I)LAppendStore$Rec;"⟩
abbrev m_F_record : aj_M := (y_F_record, b_F_record, 2, (some (.object "AppendStore$Rec")))
abbrev b_F_syncAll : ByteArray := prog_9_method_9_code
def y_F_syncAll : MethodName := ⟨aR_F, "syncAll", "()V"⟩
abbrev m_F_syncAll : aj_M := (y_F_syncAll, b_F_syncAll, 1, none)
abbrev b_F_losePower : ByteArray := prog_9_method_10_code
def y_F_losePower : MethodName := ⟨aR_F, "losePower", "(I)V"⟩
abbrev m_F_losePower : aj_M := (y_F_losePower, b_F_losePower, 2, none)
abbrev b_F_liveBytes : ByteArray := prog_9_method_11_code
def y_F_liveBytes : MethodName := ⟨aR_F, "liveBytes", "(LAppendStore$Directory;)I"⟩
abbrev m_F_liveBytes : aj_M := (y_F_liveBytes, b_F_liveBytes, 4, (some .int))
abbrev b_F_append : ByteArray := prog_9_method_12_code
def y_F_append : MethodName := ⟨aR_F, "append", "(IJJI)LAppendStore$Rec;"⟩
abbrev m_F_append : aj_M := (y_F_append, b_F_append, 9, (some (.object "AppendStore$Rec")))
abbrev b_F_appendCopy : ByteArray := prog_9_method_13_code
def y_F_appendCopy : MethodName := ⟨aR_F, "appendCopy", "(LAppendStore$Rec;)V"⟩
abbrev m_F_appendCopy : aj_M := (y_F_appendCopy, b_F_appendCopy, 3, none)
abbrev b_F_hasRightSum : ByteArray := prog_9_method_14_code
def y_F_hasRightSum : MethodName := ⟨aR_F, "hasRightSum", "(II)Z"⟩
abbrev m_F_hasRightSum : aj_M := (y_F_hasRightSum, b_F_hasRightSum, 3, (some .boolean))
abbrev b_F_publishAs : ByteArray := prog_9_method_15_code
def y_F_publishAs : MethodName := ⟨aR_F, "publishAs", "(I)V"⟩
abbrev m_F_publishAs : aj_M := (y_F_publishAs, b_F_publishAs, 4, none)
abbrev b_F_learn : ByteArray := prog_9_method_16_code
def y_F_learn : MethodName := ⟨aR_F, "learn", "(Z)V"⟩
abbrev m_F_learn : aj_M := (y_F_learn, b_F_learn, 2, none)
abbrev b_F_learnFromHint : ByteArray := prog_9_method_17_code
def y_F_learnFromHint : MethodName := ⟨aR_F, "learnFromHint", "()Z"⟩
abbrev m_F_learnFromHint : aj_M := (y_F_learnFromHint, b_F_learnFromHint, 9, (some .boolean))
abbrev b_F_learnFromBytes : ByteArray := prog_9_method_18_code
def y_F_learnFromBytes : MethodName := ⟨aR_F, "learnFromBytes", "()V"⟩
abbrev m_F_learnFromBytes : aj_M := (y_F_learnFromBytes, b_F_learnFromBytes, 7, none)
abbrev b_F_soundSize : ByteArray := prog_9_method_19_code
def y_F_soundSize : MethodName := ⟨aR_F, "soundSize", "(I)I"⟩
abbrev m_F_soundSize : aj_M := (y_F_soundSize, b_F_soundSize, 6, (some .int))
abbrev b_F_note : ByteArray := prog_9_method_20_code
def y_F_note : MethodName := ⟨aR_F, "note", "(IJILAppendStore$Rec;)LAppendStore$Rec;"⟩
abbrev m_F_note : aj_M := (y_F_note, b_F_note, 7, (some (.object "AppendStore$Rec")))
abbrev b_L_put : ByteArray := method_3_code
def y_L_put : MethodName := ⟨aR_L, "put", "(LAppendStore;JIJI)I"⟩
abbrev m_L_put : aj_M := (y_L_put, b_L_put, 8, (some .int))
abbrev b_L_delete : ByteArray := method_4_code
def y_L_delete : MethodName := ⟨aR_L, "delete", "(LAppendStore;JI[J)I"⟩
abbrev m_L_delete : aj_M := (y_L_delete, b_L_delete, 6, (some .int))
abbrev b_L_get : ByteArray := method_5_code
def y_L_get : MethodName := ⟨aR_L, "get", "(LAppendStore;JI[J)I"⟩
abbrev m_L_get : aj_M := (y_L_get, b_L_get, 6, (some .int))
abbrev b_L_keys : ByteArray := method_6_code
def y_L_keys : MethodName := ⟨aR_L, "keys", "(LAppendStore;[J)I"⟩
abbrev m_L_keys : aj_M := (y_L_keys, b_L_keys, 3, (some .int))
abbrev b_L_key : ByteArray := method_7_code
def y_L_key : MethodName := ⟨aR_L, "key", "(LAppendStore;II[J)I"⟩
abbrev m_L_key : aj_M := (y_L_key, b_L_key, 5, (some .int))
abbrev b_L_sync : ByteArray := method_8_code
def y_L_sync : MethodName := ⟨aR_L, "sync", "(LAppendStore;)I"⟩
abbrev m_L_sync : aj_M := (y_L_sync, b_L_sync, 2, (some .int))
abbrev b_L_lose : ByteArray := method_9_code
def y_L_lose : MethodName := ⟨aR_L, "lose", "(LAppendStore;I)I"⟩
abbrev m_L_lose : aj_M := (y_L_lose, b_L_lose, 3, (some .int))
abbrev b_L_merge : ByteArray := method_10_code
def y_L_merge : MethodName := ⟨aR_L, "merge", "(LAppendStore;I[J)I"⟩
abbrev m_L_merge : aj_M := (y_L_merge, b_L_merge, 4, (some .int))
abbrev b_L_file : ByteArray := method_11_code
def y_L_file : MethodName := ⟨aR_L, "file", "(LAppendStore;II[J)I"⟩
abbrev m_L_file : aj_M := (y_L_file, b_L_file, 5, (some .int))
abbrev b_L_octet : ByteArray := method_12_code
def y_L_octet : MethodName := ⟨aR_L, "octet", "(LAppendStore;IIZ[J)I"⟩
abbrev m_L_octet : aj_M := (y_L_octet, b_L_octet, 6, (some .int))
abbrev b_L_spoil : ByteArray := method_13_code
def y_L_spoil : MethodName := ⟨aR_L, "spoil", "(LAppendStore;IIZI)I"⟩
abbrev m_L_spoil : aj_M := (y_L_spoil, b_L_spoil, 6, (some .int))
abbrev b_L_law : ByteArray := code
def y_L_law : MethodName := ⟨aR_L, "law", "([I)Z"⟩
abbrev m_L_law : aj_M := (y_L_law, b_L_law, 8, (some .boolean))
/-- the words that the tables keep while code runs -/
def aw_ok : Cond → Bool
  | .fieldLinkNest .. => true
  | .methodLinkNest .. => true
  | .castable .. => true
  | .declares .. => true
  | .arrayOver (.object _) => true
  | w => goodWord w
def aw_ws : List Cond := lw_tbl.filter aw_ok
theorem aw_ws_ok {w : Cond} (h : w ∈ aw_ws) : aw_ok w = true := (List.mem_filter.mp h).2
theorem aw_sel {q : MethodName × Nat} (h : q ∈ lw_privs) : Cond.selects q.1.cls q.1 q.1 ∈ aw_ws := List.mem_filter.mpr ⟨List.mem_append_left _ (List.mem_map.mpr ⟨q, h, rfl⟩), rfl⟩
theorem aw_t1 {w : Cond} (h : w ∈ tables_1_1) (ho : aw_ok w = true) : w ∈ aw_ws := List.mem_filter.mpr ⟨List.mem_append_right _ (List.mem_append_left _ h), ho⟩
theorem aw_t2 {w : Cond} (h : w ∈ tables_1_2) (ho : aw_ok w = true) : w ∈ aw_ws := List.mem_filter.mpr ⟨List.mem_append_right _ (List.mem_append_right _ (List.mem_append_left _ h)), ho⟩
theorem aw_t3 {w : Cond} (h : w ∈ tables_1_3) (ho : aw_ok w = true) : w ∈ aw_ws := List.mem_filter.mpr ⟨List.mem_append_right _ (List.mem_append_right _ (List.mem_append_right _ (List.mem_append_left _ h))), ho⟩
theorem aw_t4 {w : Cond} (h : w ∈ tables_1_4) (ho : aw_ok w = true) : w ∈ aw_ws := List.mem_filter.mpr ⟨List.mem_append_right _ (List.mem_append_right _ (List.mem_append_right _ (List.mem_append_right _ (List.mem_append_left _ h)))), ho⟩
theorem aw_t5 {w : Cond} (h : w ∈ tables_1_5) (ho : aw_ok w = true) : w ∈ aw_ws := List.mem_filter.mpr ⟨List.mem_append_right _ (List.mem_append_right _ (List.mem_append_right _ (List.mem_append_right _ (List.mem_append_right _ (h))))), ho⟩
end
section
theorem d_A_init_0 : decode b_A_init 0 = .ok (.aload_n 0, 1) := by decide +kernel
theorem d_A_init_1 : decode b_A_init 1 = .ok (.invokespecial 1, 3) := by decide +kernel
theorem d_A_init_4 : decode b_A_init 4 = .ok (.aload_n 0, 1) := by decide +kernel
theorem d_A_init_5 : decode b_A_init 5 = .ok (.new 7, 3) := by decide +kernel
theorem d_A_init_8 : decode b_A_init 8 = .ok (.dup, 1) := by decide +kernel
theorem d_A_init_9 : decode b_A_init 9 = .ok (.invokespecial 9, 3) := by decide +kernel
theorem d_A_init_12 : decode b_A_init 12 = .ok (.putfield 10, 3) := by decide +kernel
theorem d_A_init_15 : decode b_A_init 15 = .ok (.aload_n 0, 1) := by decide +kernel
theorem d_A_init_16 : decode b_A_init 16 = .ok (.new 16, 3) := by decide +kernel
theorem d_A_init_19 : decode b_A_init 19 = .ok (.dup, 1) := by decide +kernel
theorem d_A_init_20 : decode b_A_init 20 = .ok (.invokespecial 18, 3) := by decide +kernel
theorem d_A_init_23 : decode b_A_init 23 = .ok (.putfield 19, 3) := by decide +kernel
theorem d_A_init_26 : decode b_A_init 26 = .ok (.aload_n 0, 1) := by decide +kernel
theorem d_A_init_27 : decode b_A_init 27 = .ok (.new 23, 3) := by decide +kernel
theorem d_A_init_30 : decode b_A_init 30 = .ok (.dup, 1) := by decide +kernel
theorem d_A_init_31 : decode b_A_init 31 = .ok (.invokespecial 25, 3) := by decide +kernel
theorem d_A_init_34 : decode b_A_init 34 = .ok (.putfield 26, 3) := by decide +kernel
theorem d_A_init_37 : decode b_A_init 37 = .ok (.aload_n 0, 1) := by decide +kernel
theorem d_A_init_38 : decode b_A_init 38 = .ok (.iconst 0, 1) := by decide +kernel
theorem d_A_init_39 : decode b_A_init 39 = .ok (.putfield 30, 3) := by decide +kernel
theorem d_A_init_42 : decode b_A_init 42 = .ok (.aload_n 0, 1) := by decide +kernel
theorem d_A_init_43 : decode b_A_init 43 = .ok (.iconst 0, 1) := by decide +kernel
theorem d_A_init_44 : decode b_A_init 44 = .ok (.putfield 34, 3) := by decide +kernel
theorem d_A_init_47 : decode b_A_init 47 = .ok (.return_, 1) := by decide +kernel
theorem d_A_put_0 : decode b_A_put 0 = .ok (.iload_n 3, 1) := by decide +kernel
theorem d_A_put_1 : decode b_A_put 1 = .ok (.iconst 1, 1) := by decide +kernel
theorem d_A_put_2 : decode b_A_put 2 = .ok (.iconst 4, 1) := by decide +kernel
theorem d_A_put_3 : decode b_A_put 3 = .ok (.invokestatic 40, 3) := by decide +kernel
theorem d_A_put_6 : decode b_A_put 6 = .ok (.iload 6, 2) := by decide +kernel
theorem d_A_put_8 : decode b_A_put 8 = .ok (.iconst 0, 1) := by decide +kernel
theorem d_A_put_9 : decode b_A_put 9 = .ok (.bipush 8, 2) := by decide +kernel
theorem d_A_put_11 : decode b_A_put 11 = .ok (.invokestatic 40, 3) := by decide +kernel
theorem d_A_put_14 : decode b_A_put 14 = .ok (.aload_n 0, 1) := by decide +kernel
theorem d_A_put_15 : decode b_A_put 15 = .ok (.invokevirtual 44, 3) := by decide +kernel
theorem d_A_put_18 : decode b_A_put 18 = .ok (.aload_n 0, 1) := by decide +kernel
theorem d_A_put_19 : decode b_A_put 19 = .ok (.lload_n 1, 1) := by decide +kernel
theorem d_A_put_20 : decode b_A_put 20 = .ok (.iload_n 3, 1) := by decide +kernel
theorem d_A_put_21 : decode b_A_put 21 = .ok (.invokestatic 47, 3) := by decide +kernel
theorem d_A_put_24 : decode b_A_put 24 = .ok (.lload 4, 2) := by decide +kernel
theorem d_A_put_26 : decode b_A_put 26 = .ok (.iload 6, 2) := by decide +kernel
theorem d_A_put_28 : decode b_A_put 28 = .ok (.invokevirtual 53, 3) := by decide +kernel
theorem d_A_put_31 : decode b_A_put 31 = .ok (.return_, 1) := by decide +kernel
theorem d_A_delete_0 : decode b_A_delete 0 = .ok (.iload_n 3, 1) := by decide +kernel
theorem d_A_delete_1 : decode b_A_delete 1 = .ok (.iconst 1, 1) := by decide +kernel
theorem d_A_delete_2 : decode b_A_delete 2 = .ok (.iconst 4, 1) := by decide +kernel
theorem d_A_delete_3 : decode b_A_delete 3 = .ok (.invokestatic 40, 3) := by decide +kernel
theorem d_A_delete_6 : decode b_A_delete 6 = .ok (.aload_n 0, 1) := by decide +kernel
theorem d_A_delete_7 : decode b_A_delete 7 = .ok (.invokevirtual 44, 3) := by decide +kernel
theorem d_A_delete_10 : decode b_A_delete 10 = .ok (.lload_n 1, 1) := by decide +kernel
theorem d_A_delete_11 : decode b_A_delete 11 = .ok (.iload_n 3, 1) := by decide +kernel
theorem d_A_delete_12 : decode b_A_delete 12 = .ok (.invokestatic 47, 3) := by decide +kernel
theorem d_A_delete_15 : decode b_A_delete 15 = .ok (.lstore 4, 2) := by decide +kernel
theorem d_A_delete_17 : decode b_A_delete 17 = .ok (.aload_n 0, 1) := by decide +kernel
theorem d_A_delete_18 : decode b_A_delete 18 = .ok (.getfield 19, 3) := by decide +kernel
theorem d_A_delete_21 : decode b_A_delete 21 = .ok (.lload 4, 2) := by decide +kernel
theorem d_A_delete_23 : decode b_A_delete 23 = .ok (.invokevirtual 57, 3) := by decide +kernel
theorem d_A_delete_26 : decode b_A_delete 26 = .ok (.ifnonnull 5, 3) := by decide +kernel
theorem d_A_delete_29 : decode b_A_delete 29 = .ok (.iconst 0, 1) := by decide +kernel
theorem d_A_delete_30 : decode b_A_delete 30 = .ok (.ireturn, 1) := by decide +kernel
theorem d_A_delete_31 : decode b_A_delete 31 = .ok (.aload_n 0, 1) := by decide +kernel
theorem d_A_delete_32 : decode b_A_delete 32 = .ok (.lload 4, 2) := by decide +kernel
theorem d_A_delete_34 : decode b_A_delete 34 = .ok (.lconst 0, 1) := by decide +kernel
theorem d_A_delete_35 : decode b_A_delete 35 = .ok (.sipush 255, 3) := by decide +kernel
theorem d_A_delete_38 : decode b_A_delete 38 = .ok (.invokevirtual 53, 3) := by decide +kernel
theorem d_A_delete_41 : decode b_A_delete 41 = .ok (.iconst 1, 1) := by decide +kernel
theorem d_A_delete_42 : decode b_A_delete 42 = .ok (.ireturn, 1) := by decide +kernel
theorem d_A_get_0 : decode b_A_get 0 = .ok (.iload_n 3, 1) := by decide +kernel
theorem d_A_get_1 : decode b_A_get 1 = .ok (.iconst 1, 1) := by decide +kernel
theorem d_A_get_2 : decode b_A_get 2 = .ok (.iconst 4, 1) := by decide +kernel
theorem d_A_get_3 : decode b_A_get 3 = .ok (.invokestatic 40, 3) := by decide +kernel
theorem d_A_get_6 : decode b_A_get 6 = .ok (.aload_n 0, 1) := by decide +kernel
theorem d_A_get_7 : decode b_A_get 7 = .ok (.invokevirtual 44, 3) := by decide +kernel
theorem d_A_get_10 : decode b_A_get 10 = .ok (.aload_n 0, 1) := by decide +kernel
theorem d_A_get_11 : decode b_A_get 11 = .ok (.getfield 19, 3) := by decide +kernel
theorem d_A_get_14 : decode b_A_get 14 = .ok (.lload_n 1, 1) := by decide +kernel
theorem d_A_get_15 : decode b_A_get 15 = .ok (.iload_n 3, 1) := by decide +kernel
theorem d_A_get_16 : decode b_A_get 16 = .ok (.invokestatic 47, 3) := by decide +kernel
theorem d_A_get_19 : decode b_A_get 19 = .ok (.invokevirtual 57, 3) := by decide +kernel
theorem d_A_get_22 : decode b_A_get 22 = .ok (.astore 4, 2) := by decide +kernel
theorem d_A_get_24 : decode b_A_get 24 = .ok (.aload 4, 2) := by decide +kernel
theorem d_A_get_26 : decode b_A_get 26 = .ok (.ifnonnull 13, 3) := by decide +kernel
theorem d_A_get_29 : decode b_A_get 29 = .ok (.new 61, 3) := by decide +kernel
theorem d_A_get_32 : decode b_A_get 32 = .ok (.dup, 1) := by decide +kernel
theorem d_A_get_33 : decode b_A_get 33 = .ok (.ldc 63, 2) := by decide +kernel
theorem d_A_get_35 : decode b_A_get 35 = .ok (.invokespecial 65, 3) := by decide +kernel
theorem d_A_get_38 : decode b_A_get 38 = .ok (.athrow, 1) := by decide +kernel
theorem d_A_get_39 : decode b_A_get 39 = .ok (.aload 4, 2) := by decide +kernel
theorem d_A_get_41 : decode b_A_get 41 = .ok (.invokevirtual 68, 3) := by decide +kernel
theorem d_A_get_44 : decode b_A_get 44 = .ok (.ifCond .eq 13, 3) := by decide +kernel
theorem d_A_get_47 : decode b_A_get 47 = .ok (.new 74, 3) := by decide +kernel
theorem d_A_get_50 : decode b_A_get 50 = .ok (.dup, 1) := by decide +kernel
theorem d_A_get_51 : decode b_A_get 51 = .ok (.ldc 76, 2) := by decide +kernel
theorem d_A_get_53 : decode b_A_get 53 = .ok (.invokespecial 78, 3) := by decide +kernel
theorem d_A_get_56 : decode b_A_get 56 = .ok (.athrow, 1) := by decide +kernel
theorem d_A_get_57 : decode b_A_get 57 = .ok (.aload 4, 2) := by decide +kernel
theorem d_A_get_59 : decode b_A_get 59 = .ok (.invokevirtual 79, 3) := by decide +kernel
theorem d_A_get_62 : decode b_A_get 62 = .ok (.lreturn, 1) := by decide +kernel
theorem d_A_keys_0 : decode b_A_keys 0 = .ok (.aload_n 0, 1) := by decide +kernel
theorem d_A_keys_1 : decode b_A_keys 1 = .ok (.invokevirtual 44, 3) := by decide +kernel
theorem d_A_keys_4 : decode b_A_keys 4 = .ok (.aload_n 0, 1) := by decide +kernel
theorem d_A_keys_5 : decode b_A_keys 5 = .ok (.getfield 19, 3) := by decide +kernel
theorem d_A_keys_8 : decode b_A_keys 8 = .ok (.invokevirtual 83, 3) := by decide +kernel
theorem d_A_keys_11 : decode b_A_keys 11 = .ok (.ireturn, 1) := by decide +kernel
theorem d_A_key_0 : decode b_A_key 0 = .ok (.iload_n 2, 1) := by decide +kernel
theorem d_A_key_1 : decode b_A_key 1 = .ok (.iconst 0, 1) := by decide +kernel
theorem d_A_key_2 : decode b_A_key 2 = .ok (.iconst 3, 1) := by decide +kernel
theorem d_A_key_3 : decode b_A_key 3 = .ok (.invokestatic 40, 3) := by decide +kernel
theorem d_A_key_6 : decode b_A_key 6 = .ok (.aload_n 0, 1) := by decide +kernel
theorem d_A_key_7 : decode b_A_key 7 = .ok (.invokevirtual 44, 3) := by decide +kernel
theorem d_A_key_10 : decode b_A_key 10 = .ok (.aload_n 0, 1) := by decide +kernel
theorem d_A_key_11 : decode b_A_key 11 = .ok (.getfield 19, 3) := by decide +kernel
theorem d_A_key_14 : decode b_A_key 14 = .ok (.iload_n 1, 1) := by decide +kernel
theorem d_A_key_15 : decode b_A_key 15 = .ok (.invokevirtual 87, 3) := by decide +kernel
theorem d_A_key_18 : decode b_A_key 18 = .ok (.astore_n 3, 1) := by decide +kernel
theorem d_A_key_19 : decode b_A_key 19 = .ok (.aload_n 3, 1) := by decide +kernel
theorem d_A_key_20 : decode b_A_key 20 = .ok (.ifnonnull 13, 3) := by decide +kernel
theorem d_A_key_23 : decode b_A_key 23 = .ok (.new 61, 3) := by decide +kernel
theorem d_A_key_26 : decode b_A_key 26 = .ok (.dup, 1) := by decide +kernel
theorem d_A_key_27 : decode b_A_key 27 = .ok (.ldc 91, 2) := by decide +kernel
theorem d_A_key_29 : decode b_A_key 29 = .ok (.invokespecial 65, 3) := by decide +kernel
theorem d_A_key_32 : decode b_A_key 32 = .ok (.athrow, 1) := by decide +kernel
theorem d_A_key_33 : decode b_A_key 33 = .ok (.iload_n 2, 1) := by decide +kernel
theorem d_A_key_34 : decode b_A_key 34 = .ok (.tableswitch 49 0 2 #[26, 35, 43], 26) := by decide +kernel
theorem d_A_key_60 : decode b_A_key 60 = .ok (.aload_n 3, 1) := by decide +kernel
theorem d_A_key_61 : decode b_A_key 61 = .ok (.getfield 93, 3) := by decide +kernel
theorem d_A_key_64 : decode b_A_key 64 = .ok (.invokestatic 96, 3) := by decide +kernel
theorem d_A_key_67 : decode b_A_key 67 = .ok (.i2l, 1) := by decide +kernel
theorem d_A_key_68 : decode b_A_key 68 = .ok (.lreturn, 1) := by decide +kernel
theorem d_A_key_69 : decode b_A_key 69 = .ok (.aload_n 3, 1) := by decide +kernel
theorem d_A_key_70 : decode b_A_key 70 = .ok (.getfield 93, 3) := by decide +kernel
theorem d_A_key_73 : decode b_A_key 73 = .ok (.invokestatic 100, 3) := by decide +kernel
theorem d_A_key_76 : decode b_A_key 76 = .ok (.lreturn, 1) := by decide +kernel
theorem d_A_key_77 : decode b_A_key 77 = .ok (.aload_n 3, 1) := by decide +kernel
theorem d_A_key_78 : decode b_A_key 78 = .ok (.invokevirtual 104, 3) := by decide +kernel
theorem d_A_key_81 : decode b_A_key 81 = .ok (.i2l, 1) := by decide +kernel
theorem d_A_key_82 : decode b_A_key 82 = .ok (.lreturn, 1) := by decide +kernel
theorem d_A_key_83 : decode b_A_key 83 = .ok (.aload_n 3, 1) := by decide +kernel
theorem d_A_key_84 : decode b_A_key 84 = .ok (.getfield 107, 3) := by decide +kernel
theorem d_A_key_87 : decode b_A_key 87 = .ok (.i2l, 1) := by decide +kernel
theorem d_A_key_88 : decode b_A_key 88 = .ok (.lreturn, 1) := by decide +kernel
theorem d_A_sync_0 : decode b_A_sync 0 = .ok (.aload_n 0, 1) := by decide +kernel
theorem d_A_sync_1 : decode b_A_sync 1 = .ok (.invokevirtual 44, 3) := by decide +kernel
theorem d_A_sync_4 : decode b_A_sync 4 = .ok (.aload_n 0, 1) := by decide +kernel
theorem d_A_sync_5 : decode b_A_sync 5 = .ok (.getfield 10, 3) := by decide +kernel
theorem d_A_sync_8 : decode b_A_sync 8 = .ok (.invokevirtual 110, 3) := by decide +kernel
theorem d_A_sync_11 : decode b_A_sync 11 = .ok (.return_, 1) := by decide +kernel
theorem d_A_lose_0 : decode b_A_lose 0 = .ok (.iload_n 1, 1) := by decide +kernel
theorem d_A_lose_1 : decode b_A_lose 1 = .ok (.iconst 0, 1) := by decide +kernel
theorem d_A_lose_2 : decode b_A_lose 2 = .ok (.bipush 100, 2) := by decide +kernel
theorem d_A_lose_4 : decode b_A_lose 4 = .ok (.invokestatic 40, 3) := by decide +kernel
theorem d_A_lose_7 : decode b_A_lose 7 = .ok (.aload_n 0, 1) := by decide +kernel
theorem d_A_lose_8 : decode b_A_lose 8 = .ok (.getfield 10, 3) := by decide +kernel
theorem d_A_lose_11 : decode b_A_lose 11 = .ok (.iload_n 1, 1) := by decide +kernel
theorem d_A_lose_12 : decode b_A_lose 12 = .ok (.invokevirtual 113, 3) := by decide +kernel
theorem d_A_lose_15 : decode b_A_lose 15 = .ok (.aload_n 0, 1) := by decide +kernel
theorem d_A_lose_16 : decode b_A_lose 16 = .ok (.getfield 26, 3) := by decide +kernel
theorem d_A_lose_19 : decode b_A_lose 19 = .ok (.invokevirtual 117, 3) := by decide +kernel
theorem d_A_lose_22 : decode b_A_lose 22 = .ok (.aload_n 0, 1) := by decide +kernel
theorem d_A_lose_23 : decode b_A_lose 23 = .ok (.iconst 1, 1) := by decide +kernel
theorem d_A_lose_24 : decode b_A_lose 24 = .ok (.putfield 34, 3) := by decide +kernel
theorem d_A_lose_27 : decode b_A_lose 27 = .ok (.return_, 1) := by decide +kernel
theorem d_A_open_0 : decode b_A_open 0 = .ok (.aload_n 0, 1) := by decide +kernel
theorem d_A_open_1 : decode b_A_open 1 = .ok (.getfield 26, 3) := by decide +kernel
theorem d_A_open_4 : decode b_A_open 4 = .ok (.invokevirtual 117, 3) := by decide +kernel
theorem d_A_open_7 : decode b_A_open 7 = .ok (.aload_n 0, 1) := by decide +kernel
theorem d_A_open_8 : decode b_A_open 8 = .ok (.getfield 19, 3) := by decide +kernel
theorem d_A_open_11 : decode b_A_open 11 = .ok (.invokevirtual 120, 3) := by decide +kernel
theorem d_A_open_14 : decode b_A_open 14 = .ok (.aload_n 0, 1) := by decide +kernel
theorem d_A_open_15 : decode b_A_open 15 = .ok (.getfield 10, 3) := by decide +kernel
theorem d_A_open_18 : decode b_A_open 18 = .ok (.invokevirtual 123, 3) := by decide +kernel
theorem d_A_open_21 : decode b_A_open 21 = .ok (.iconst 0, 1) := by decide +kernel
theorem d_A_open_22 : decode b_A_open 22 = .ok (.istore_n 2, 1) := by decide +kernel
theorem d_A_open_23 : decode b_A_open 23 = .ok (.iload_n 2, 1) := by decide +kernel
theorem d_A_open_24 : decode b_A_open 24 = .ok (.aload_n 0, 1) := by decide +kernel
theorem d_A_open_25 : decode b_A_open 25 = .ok (.getfield 10, 3) := by decide +kernel
theorem d_A_open_28 : decode b_A_open 28 = .ok (.invokevirtual 126, 3) := by decide +kernel
theorem d_A_open_31 : decode b_A_open 31 = .ok (.if_icmp .ge 32, 3) := by decide +kernel
theorem d_A_open_34 : decode b_A_open 34 = .ok (.aload_n 0, 1) := by decide +kernel
theorem d_A_open_35 : decode b_A_open 35 = .ok (.getfield 10, 3) := by decide +kernel
theorem d_A_open_38 : decode b_A_open 38 = .ok (.iload_n 2, 1) := by decide +kernel
theorem d_A_open_39 : decode b_A_open 39 = .ok (.invokevirtual 127, 3) := by decide +kernel
theorem d_A_open_42 : decode b_A_open 42 = .ok (.astore_n 3, 1) := by decide +kernel
theorem d_A_open_43 : decode b_A_open 43 = .ok (.aload_n 3, 1) := by decide +kernel
theorem d_A_open_44 : decode b_A_open 44 = .ok (.ifnull 13, 3) := by decide +kernel
theorem d_A_open_47 : decode b_A_open 47 = .ok (.aload_n 3, 1) := by decide +kernel
theorem d_A_open_48 : decode b_A_open 48 = .ok (.iload_n 1, 1) := by decide +kernel
theorem d_A_open_49 : decode b_A_open 49 = .ok (.invokevirtual 130, 3) := by decide +kernel
theorem d_A_open_52 : decode b_A_open 52 = .ok (.aload_n 0, 1) := by decide +kernel
theorem d_A_open_53 : decode b_A_open 53 = .ok (.aload_n 3, 1) := by decide +kernel
theorem d_A_open_54 : decode b_A_open 54 = .ok (.invokevirtual 136, 3) := by decide +kernel
theorem d_A_open_57 : decode b_A_open 57 = .ok (.iinc 2 1, 3) := by decide +kernel
theorem d_A_open_60 : decode b_A_open 60 = .ok (.goto (-37), 3) := by decide +kernel
theorem d_A_open_63 : decode b_A_open 63 = .ok (.aload_n 0, 1) := by decide +kernel
theorem d_A_open_64 : decode b_A_open 64 = .ok (.iconst 0, 1) := by decide +kernel
theorem d_A_open_65 : decode b_A_open 65 = .ok (.putfield 34, 3) := by decide +kernel
theorem d_A_open_68 : decode b_A_open 68 = .ok (.aload_n 0, 1) := by decide +kernel
theorem d_A_open_69 : decode b_A_open 69 = .ok (.getfield 19, 3) := by decide +kernel
theorem d_A_open_72 : decode b_A_open 72 = .ok (.invokevirtual 83, 3) := by decide +kernel
theorem d_A_open_75 : decode b_A_open 75 = .ok (.ireturn, 1) := by decide +kernel
theorem d_A_merge_0 : decode b_A_merge 0 = .ok (.iload_n 1, 1) := by decide +kernel
theorem d_A_merge_1 : decode b_A_merge 1 = .ok (.iconst 1, 1) := by decide +kernel
theorem d_A_merge_2 : decode b_A_merge 2 = .ok (.bipush 20, 2) := by decide +kernel
theorem d_A_merge_4 : decode b_A_merge 4 = .ok (.invokestatic 40, 3) := by decide +kernel
theorem d_A_merge_7 : decode b_A_merge 7 = .ok (.aload_n 0, 1) := by decide +kernel
theorem d_A_merge_8 : decode b_A_merge 8 = .ok (.invokevirtual 44, 3) := by decide +kernel
theorem d_A_merge_11 : decode b_A_merge 11 = .ok (.aload_n 0, 1) := by decide +kernel
theorem d_A_merge_12 : decode b_A_merge 12 = .ok (.getfield 26, 3) := by decide +kernel
theorem d_A_merge_15 : decode b_A_merge 15 = .ok (.invokevirtual 140, 3) := by decide +kernel
theorem d_A_merge_18 : decode b_A_merge 18 = .ok (.ifCond .ne 37, 3) := by decide +kernel
theorem d_A_merge_21 : decode b_A_merge 21 = .ok (.aload_n 0, 1) := by decide +kernel
theorem d_A_merge_22 : decode b_A_merge 22 = .ok (.getfield 10, 3) := by decide +kernel
theorem d_A_merge_25 : decode b_A_merge 25 = .ok (.invokevirtual 143, 3) := by decide +kernel
theorem d_A_merge_28 : decode b_A_merge 28 = .ok (.ifCond .ne 13, 3) := by decide +kernel
theorem d_A_merge_31 : decode b_A_merge 31 = .ok (.new 146, 3) := by decide +kernel
theorem d_A_merge_34 : decode b_A_merge 34 = .ok (.dup, 1) := by decide +kernel
theorem d_A_merge_35 : decode b_A_merge 35 = .ok (.ldc 148, 2) := by decide +kernel
theorem d_A_merge_37 : decode b_A_merge 37 = .ok (.invokespecial 150, 3) := by decide +kernel
theorem d_A_merge_40 : decode b_A_merge 40 = .ok (.athrow, 1) := by decide +kernel
theorem d_A_merge_41 : decode b_A_merge 41 = .ok (.aload_n 0, 1) := by decide +kernel
theorem d_A_merge_42 : decode b_A_merge 42 = .ok (.getfield 26, 3) := by decide +kernel
theorem d_A_merge_45 : decode b_A_merge 45 = .ok (.aload_n 0, 1) := by decide +kernel
theorem d_A_merge_46 : decode b_A_merge 46 = .ok (.getfield 10, 3) := by decide +kernel
theorem d_A_merge_49 : decode b_A_merge 49 = .ok (.invokevirtual 143, 3) := by decide +kernel
theorem d_A_merge_52 : decode b_A_merge 52 = .ok (.invokevirtual 151, 3) := by decide +kernel
theorem d_A_merge_55 : decode b_A_merge 55 = .ok (.aload_n 0, 1) := by decide +kernel
theorem d_A_merge_56 : decode b_A_merge 56 = .ok (.getfield 26, 3) := by decide +kernel
theorem d_A_merge_59 : decode b_A_merge 59 = .ok (.iload_n 1, 1) := by decide +kernel
theorem d_A_merge_60 : decode b_A_merge 60 = .ok (.aload_n 0, 1) := by decide +kernel
theorem d_A_merge_61 : decode b_A_merge 61 = .ok (.getfield 10, 3) := by decide +kernel
theorem d_A_merge_64 : decode b_A_merge 64 = .ok (.aload_n 0, 1) := by decide +kernel
theorem d_A_merge_65 : decode b_A_merge 65 = .ok (.getfield 19, 3) := by decide +kernel
theorem d_A_merge_68 : decode b_A_merge 68 = .ok (.invokevirtual 154, 3) := by decide +kernel
theorem d_A_merge_71 : decode b_A_merge 71 = .ok (.aload_n 0, 1) := by decide +kernel
theorem d_A_merge_72 : decode b_A_merge 72 = .ok (.getfield 26, 3) := by decide +kernel
theorem d_A_merge_75 : decode b_A_merge 75 = .ok (.aload_n 0, 1) := by decide +kernel
theorem d_A_merge_76 : decode b_A_merge 76 = .ok (.getfield 10, 3) := by decide +kernel
theorem d_A_merge_79 : decode b_A_merge 79 = .ok (.invokevirtual 158, 3) := by decide +kernel
theorem d_A_merge_82 : decode b_A_merge 82 = .ok (.ifCond .ne 5, 3) := by decide +kernel
theorem d_A_merge_85 : decode b_A_merge 85 = .ok (.iconst 0, 1) := by decide +kernel
theorem d_A_merge_86 : decode b_A_merge 86 = .ok (.ireturn, 1) := by decide +kernel
theorem d_A_merge_87 : decode b_A_merge 87 = .ok (.aload_n 0, 1) := by decide +kernel
theorem d_A_merge_88 : decode b_A_merge 88 = .ok (.getfield 26, 3) := by decide +kernel
theorem d_A_merge_91 : decode b_A_merge 91 = .ok (.aload_n 0, 1) := by decide +kernel
theorem d_A_merge_92 : decode b_A_merge 92 = .ok (.getfield 10, 3) := by decide +kernel
theorem d_A_merge_95 : decode b_A_merge 95 = .ok (.aload_n 0, 1) := by decide +kernel
theorem d_A_merge_96 : decode b_A_merge 96 = .ok (.getfield 19, 3) := by decide +kernel
theorem d_A_merge_99 : decode b_A_merge 99 = .ok (.invokevirtual 162, 3) := by decide +kernel
theorem d_A_merge_102 : decode b_A_merge 102 = .ok (.iconst 1, 1) := by decide +kernel
theorem d_A_merge_103 : decode b_A_merge 103 = .ok (.ireturn, 1) := by decide +kernel
theorem d_A_files_0 : decode b_A_files 0 = .ok (.aload_n 0, 1) := by decide +kernel
theorem d_A_files_1 : decode b_A_files 1 = .ok (.getfield 10, 3) := by decide +kernel
theorem d_A_files_4 : decode b_A_files 4 = .ok (.invokevirtual 126, 3) := by decide +kernel
theorem d_A_files_7 : decode b_A_files 7 = .ok (.ireturn, 1) := by decide +kernel
theorem d_A_file_0 : decode b_A_file 0 = .ok (.iload_n 2, 1) := by decide +kernel
theorem d_A_file_1 : decode b_A_file 1 = .ok (.iconst 0, 1) := by decide +kernel
theorem d_A_file_2 : decode b_A_file 2 = .ok (.iconst 4, 1) := by decide +kernel
theorem d_A_file_3 : decode b_A_file 3 = .ok (.invokestatic 40, 3) := by decide +kernel
theorem d_A_file_6 : decode b_A_file 6 = .ok (.aload_n 0, 1) := by decide +kernel
theorem d_A_file_7 : decode b_A_file 7 = .ok (.getfield 10, 3) := by decide +kernel
theorem d_A_file_10 : decode b_A_file 10 = .ok (.iload_n 1, 1) := by decide +kernel
theorem d_A_file_11 : decode b_A_file 11 = .ok (.invokevirtual 127, 3) := by decide +kernel
theorem d_A_file_14 : decode b_A_file 14 = .ok (.astore_n 3, 1) := by decide +kernel
theorem d_A_file_15 : decode b_A_file 15 = .ok (.aload_n 3, 1) := by decide +kernel
theorem d_A_file_16 : decode b_A_file 16 = .ok (.ifnonnull 13, 3) := by decide +kernel
theorem d_A_file_19 : decode b_A_file 19 = .ok (.new 166, 3) := by decide +kernel
theorem d_A_file_22 : decode b_A_file 22 = .ok (.dup, 1) := by decide +kernel
theorem d_A_file_23 : decode b_A_file 23 = .ok (.ldc 168, 2) := by decide +kernel
theorem d_A_file_25 : decode b_A_file 25 = .ok (.invokespecial 170, 3) := by decide +kernel
theorem d_A_file_28 : decode b_A_file 28 = .ok (.athrow, 1) := by decide +kernel
theorem d_A_file_29 : decode b_A_file 29 = .ok (.iload_n 2, 1) := by decide +kernel
theorem d_A_file_30 : decode b_A_file 30 = .ok (.tableswitch 68 0 3 #[30, 35, 43, 48], 30) := by decide +kernel
theorem d_A_file_60 : decode b_A_file 60 = .ok (.aload_n 3, 1) := by decide +kernel
theorem d_A_file_61 : decode b_A_file 61 = .ok (.invokevirtual 171, 3) := by decide +kernel
theorem d_A_file_64 : decode b_A_file 64 = .ok (.ireturn, 1) := by decide +kernel
theorem d_A_file_65 : decode b_A_file 65 = .ok (.aload_n 3, 1) := by decide +kernel
theorem d_A_file_66 : decode b_A_file 66 = .ok (.invokevirtual 173, 3) := by decide +kernel
theorem d_A_file_69 : decode b_A_file 69 = .ok (.invokevirtual 177, 3) := by decide +kernel
theorem d_A_file_72 : decode b_A_file 72 = .ok (.ireturn, 1) := by decide +kernel
theorem d_A_file_73 : decode b_A_file 73 = .ok (.aload_n 3, 1) := by decide +kernel
theorem d_A_file_74 : decode b_A_file 74 = .ok (.invokevirtual 181, 3) := by decide +kernel
theorem d_A_file_77 : decode b_A_file 77 = .ok (.ireturn, 1) := by decide +kernel
theorem d_A_file_78 : decode b_A_file 78 = .ok (.aload_n 0, 1) := by decide +kernel
theorem d_A_file_79 : decode b_A_file 79 = .ok (.getfield 34, 3) := by decide +kernel
theorem d_A_file_82 : decode b_A_file 82 = .ok (.ifCond .eq 7, 3) := by decide +kernel
theorem d_A_file_85 : decode b_A_file 85 = .ok (.iconst 0, 1) := by decide +kernel
theorem d_A_file_86 : decode b_A_file 86 = .ok (.goto 11, 3) := by decide +kernel
theorem d_A_file_89 : decode b_A_file 89 = .ok (.aload_n 3, 1) := by decide +kernel
theorem d_A_file_90 : decode b_A_file 90 = .ok (.aload_n 0, 1) := by decide +kernel
theorem d_A_file_91 : decode b_A_file 91 = .ok (.getfield 19, 3) := by decide +kernel
theorem d_A_file_94 : decode b_A_file 94 = .ok (.invokevirtual 184, 3) := by decide +kernel
theorem d_A_file_97 : decode b_A_file 97 = .ok (.ireturn, 1) := by decide +kernel
theorem d_A_file_98 : decode b_A_file 98 = .ok (.aload_n 3, 1) := by decide +kernel
theorem d_A_file_99 : decode b_A_file 99 = .ok (.invokevirtual 188, 3) := by decide +kernel
theorem d_A_file_102 : decode b_A_file 102 = .ok (.invokevirtual 177, 3) := by decide +kernel
theorem d_A_file_105 : decode b_A_file 105 = .ok (.ireturn, 1) := by decide +kernel
theorem d_A_octet_0 : decode b_A_octet 0 = .ok (.aload_n 0, 1) := by decide +kernel
theorem d_A_octet_1 : decode b_A_octet 1 = .ok (.iload_n 1, 1) := by decide +kernel
theorem d_A_octet_2 : decode b_A_octet 2 = .ok (.iload_n 2, 1) := by decide +kernel
theorem d_A_octet_3 : decode b_A_octet 3 = .ok (.iload_n 3, 1) := by decide +kernel
theorem d_A_octet_4 : decode b_A_octet 4 = .ok (.invokevirtual 191, 3) := by decide +kernel
theorem d_A_octet_7 : decode b_A_octet 7 = .ok (.iload_n 2, 1) := by decide +kernel
theorem d_A_octet_8 : decode b_A_octet 8 = .ok (.invokevirtual 195, 3) := by decide +kernel
theorem d_A_octet_11 : decode b_A_octet 11 = .ok (.ireturn, 1) := by decide +kernel
theorem d_A_spoil_0 : decode b_A_spoil 0 = .ok (.aload_n 0, 1) := by decide +kernel
theorem d_A_spoil_1 : decode b_A_spoil 1 = .ok (.iload_n 1, 1) := by decide +kernel
theorem d_A_spoil_2 : decode b_A_spoil 2 = .ok (.iload_n 2, 1) := by decide +kernel
theorem d_A_spoil_3 : decode b_A_spoil 3 = .ok (.iload_n 3, 1) := by decide +kernel
theorem d_A_spoil_4 : decode b_A_spoil 4 = .ok (.invokevirtual 191, 3) := by decide +kernel
theorem d_A_spoil_7 : decode b_A_spoil 7 = .ok (.astore 5, 2) := by decide +kernel
theorem d_A_spoil_9 : decode b_A_spoil 9 = .ok (.aload 5, 2) := by decide +kernel
theorem d_A_spoil_11 : decode b_A_spoil 11 = .ok (.iload_n 2, 1) := by decide +kernel
theorem d_A_spoil_12 : decode b_A_spoil 12 = .ok (.aload 5, 2) := by decide +kernel
theorem d_A_spoil_14 : decode b_A_spoil 14 = .ok (.iload_n 2, 1) := by decide +kernel
theorem d_A_spoil_15 : decode b_A_spoil 15 = .ok (.invokevirtual 195, 3) := by decide +kernel
theorem d_A_spoil_18 : decode b_A_spoil 18 = .ok (.iload 4, 2) := by decide +kernel
theorem d_A_spoil_20 : decode b_A_spoil 20 = .ok (.ixor, 1) := by decide +kernel
theorem d_A_spoil_21 : decode b_A_spoil 21 = .ok (.invokevirtual 198, 3) := by decide +kernel
theorem d_A_spoil_24 : decode b_A_spoil 24 = .ok (.return_, 1) := by decide +kernel
theorem d_A_checkOpen_0 : decode b_A_checkOpen 0 = .ok (.aload_n 0, 1) := by decide +kernel
theorem d_A_checkOpen_1 : decode b_A_checkOpen 1 = .ok (.getfield 34, 3) := by decide +kernel
theorem d_A_checkOpen_4 : decode b_A_checkOpen 4 = .ok (.ifCond .eq 13, 3) := by decide +kernel
theorem d_A_checkOpen_7 : decode b_A_checkOpen 7 = .ok (.new 146, 3) := by decide +kernel
theorem d_A_checkOpen_10 : decode b_A_checkOpen 10 = .ok (.dup, 1) := by decide +kernel
theorem d_A_checkOpen_11 : decode b_A_checkOpen 11 = .ok (.ldc 202, 2) := by decide +kernel
theorem d_A_checkOpen_13 : decode b_A_checkOpen 13 = .ok (.invokespecial 150, 3) := by decide +kernel
theorem d_A_checkOpen_16 : decode b_A_checkOpen 16 = .ok (.athrow, 1) := by decide +kernel
theorem d_A_checkOpen_17 : decode b_A_checkOpen 17 = .ok (.return_, 1) := by decide +kernel
theorem d_A_checkRange_0 : decode b_A_checkRange 0 = .ok (.iload_n 0, 1) := by decide +kernel
theorem d_A_checkRange_1 : decode b_A_checkRange 1 = .ok (.iload_n 1, 1) := by decide +kernel
theorem d_A_checkRange_2 : decode b_A_checkRange 2 = .ok (.if_icmp .lt 8, 3) := by decide +kernel
theorem d_A_checkRange_5 : decode b_A_checkRange 5 = .ok (.iload_n 0, 1) := by decide +kernel
theorem d_A_checkRange_6 : decode b_A_checkRange 6 = .ok (.iload_n 2, 1) := by decide +kernel
theorem d_A_checkRange_7 : decode b_A_checkRange 7 = .ok (.if_icmp .le 13, 3) := by decide +kernel
theorem d_A_checkRange_10 : decode b_A_checkRange 10 = .ok (.new 166, 3) := by decide +kernel
theorem d_A_checkRange_13 : decode b_A_checkRange 13 = .ok (.dup, 1) := by decide +kernel
theorem d_A_checkRange_14 : decode b_A_checkRange 14 = .ok (.ldc 204, 2) := by decide +kernel
theorem d_A_checkRange_16 : decode b_A_checkRange 16 = .ok (.invokespecial 170, 3) := by decide +kernel
theorem d_A_checkRange_19 : decode b_A_checkRange 19 = .ok (.athrow, 1) := by decide +kernel
theorem d_A_checkRange_20 : decode b_A_checkRange 20 = .ok (.return_, 1) := by decide +kernel
theorem d_A_rowWith_0 : decode b_A_rowWith 0 = .ok (.aload_n 0, 1) := by decide +kernel
theorem d_A_rowWith_1 : decode b_A_rowWith 1 = .ok (.getfield 10, 3) := by decide +kernel
theorem d_A_rowWith_4 : decode b_A_rowWith 4 = .ok (.iload_n 1, 1) := by decide +kernel
theorem d_A_rowWith_5 : decode b_A_rowWith 5 = .ok (.invokevirtual 127, 3) := by decide +kernel
theorem d_A_rowWith_8 : decode b_A_rowWith 8 = .ok (.astore 4, 2) := by decide +kernel
theorem d_A_rowWith_10 : decode b_A_rowWith 10 = .ok (.aload 4, 2) := by decide +kernel
theorem d_A_rowWith_12 : decode b_A_rowWith 12 = .ok (.ifnonnull 13, 3) := by decide +kernel
theorem d_A_rowWith_15 : decode b_A_rowWith 15 = .ok (.new 166, 3) := by decide +kernel
theorem d_A_rowWith_18 : decode b_A_rowWith 18 = .ok (.dup, 1) := by decide +kernel
theorem d_A_rowWith_19 : decode b_A_rowWith 19 = .ok (.ldc 168, 2) := by decide +kernel
theorem d_A_rowWith_21 : decode b_A_rowWith 21 = .ok (.invokespecial 170, 3) := by decide +kernel
theorem d_A_rowWith_24 : decode b_A_rowWith 24 = .ok (.athrow, 1) := by decide +kernel
theorem d_A_rowWith_25 : decode b_A_rowWith 25 = .ok (.iload_n 3, 1) := by decide +kernel
theorem d_A_rowWith_26 : decode b_A_rowWith 26 = .ok (.ifCond .eq 11, 3) := by decide +kernel
theorem d_A_rowWith_29 : decode b_A_rowWith 29 = .ok (.aload 4, 2) := by decide +kernel
theorem d_A_rowWith_31 : decode b_A_rowWith 31 = .ok (.invokevirtual 188, 3) := by decide +kernel
theorem d_A_rowWith_34 : decode b_A_rowWith 34 = .ok (.goto 8, 3) := by decide +kernel
theorem d_A_rowWith_37 : decode b_A_rowWith 37 = .ok (.aload 4, 2) := by decide +kernel
theorem d_A_rowWith_39 : decode b_A_rowWith 39 = .ok (.invokevirtual 173, 3) := by decide +kernel
theorem d_A_rowWith_42 : decode b_A_rowWith 42 = .ok (.astore 5, 2) := by decide +kernel
theorem d_A_rowWith_44 : decode b_A_rowWith 44 = .ok (.aload 5, 2) := by decide +kernel
theorem d_A_rowWith_46 : decode b_A_rowWith 46 = .ok (.iload_n 2, 1) := by decide +kernel
theorem d_A_rowWith_47 : decode b_A_rowWith 47 = .ok (.invokevirtual 206, 3) := by decide +kernel
theorem d_A_rowWith_50 : decode b_A_rowWith 50 = .ok (.ifCond .ne 13, 3) := by decide +kernel
theorem d_A_rowWith_53 : decode b_A_rowWith 53 = .ok (.new 166, 3) := by decide +kernel
theorem d_A_rowWith_56 : decode b_A_rowWith 56 = .ok (.dup, 1) := by decide +kernel
theorem d_A_rowWith_57 : decode b_A_rowWith 57 = .ok (.ldc 210, 2) := by decide +kernel
theorem d_A_rowWith_59 : decode b_A_rowWith 59 = .ok (.invokespecial 170, 3) := by decide +kernel
theorem d_A_rowWith_62 : decode b_A_rowWith 62 = .ok (.athrow, 1) := by decide +kernel
theorem d_A_rowWith_63 : decode b_A_rowWith 63 = .ok (.aload 5, 2) := by decide +kernel
theorem d_A_rowWith_65 : decode b_A_rowWith 65 = .ok (.areturn, 1) := by decide +kernel
theorem d_A_append_0 : decode b_A_append 0 = .ok (.aload_n 0, 1) := by decide +kernel
theorem d_A_append_1 : decode b_A_append 1 = .ok (.getfield 10, 3) := by decide +kernel
theorem d_A_append_4 : decode b_A_append 4 = .ok (.lload_n 1, 1) := by decide +kernel
theorem d_A_append_5 : decode b_A_append 5 = .ok (.invokestatic 96, 3) := by decide +kernel
theorem d_A_append_8 : decode b_A_append 8 = .ok (.iload 5, 2) := by decide +kernel
theorem d_A_append_10 : decode b_A_append 10 = .ok (.invokestatic 212, 3) := by decide +kernel
theorem d_A_append_13 : decode b_A_append 13 = .ok (.invokevirtual 216, 3) := by decide +kernel
theorem d_A_append_16 : decode b_A_append 16 = .ok (.astore 6, 2) := by decide +kernel
theorem d_A_append_18 : decode b_A_append 18 = .ok (.aload 6, 2) := by decide +kernel
theorem d_A_append_20 : decode b_A_append 20 = .ok (.ifnonnull 13, 3) := by decide +kernel
theorem d_A_append_23 : decode b_A_append 23 = .ok (.new 74, 3) := by decide +kernel
theorem d_A_append_26 : decode b_A_append 26 = .ok (.dup, 1) := by decide +kernel
theorem d_A_append_27 : decode b_A_append 27 = .ok (.ldc 219, 2) := by decide +kernel
theorem d_A_append_29 : decode b_A_append 29 = .ok (.invokespecial 78, 3) := by decide +kernel
theorem d_A_append_32 : decode b_A_append 32 = .ok (.athrow, 1) := by decide +kernel
theorem d_A_append_33 : decode b_A_append 33 = .ok (.aload_n 0, 1) := by decide +kernel
theorem d_A_append_34 : decode b_A_append 34 = .ok (.getfield 19, 3) := by decide +kernel
theorem d_A_append_37 : decode b_A_append 37 = .ok (.aload 6, 2) := by decide +kernel
theorem d_A_append_39 : decode b_A_append 39 = .ok (.aload_n 0, 1) := by decide +kernel
theorem d_A_append_40 : decode b_A_append 40 = .ok (.getfield 30, 3) := by decide +kernel
theorem d_A_append_43 : decode b_A_append 43 = .ok (.lload_n 1, 1) := by decide +kernel
theorem d_A_append_44 : decode b_A_append 44 = .ok (.lload_n 3, 1) := by decide +kernel
theorem d_A_append_45 : decode b_A_append 45 = .ok (.iload 5, 2) := by decide +kernel
theorem d_A_append_47 : decode b_A_append 47 = .ok (.invokevirtual 221, 3) := by decide +kernel
theorem d_A_append_50 : decode b_A_append 50 = .ok (.invokevirtual 224, 3) := by decide +kernel
theorem d_A_append_53 : decode b_A_append 53 = .ok (.aload_n 0, 1) := by decide +kernel
theorem d_A_append_54 : decode b_A_append 54 = .ok (.aload_n 0, 1) := by decide +kernel
theorem d_A_append_55 : decode b_A_append 55 = .ok (.getfield 30, 3) := by decide +kernel
theorem d_A_append_58 : decode b_A_append 58 = .ok (.iconst 1, 1) := by decide +kernel
theorem d_A_append_59 : decode b_A_append 59 = .ok (.iadd, 1) := by decide +kernel
theorem d_A_append_60 : decode b_A_append 60 = .ok (.ldc 227, 2) := by decide +kernel
theorem d_A_append_62 : decode b_A_append 62 = .ok (.iand, 1) := by decide +kernel
theorem d_A_append_63 : decode b_A_append 63 = .ok (.putfield 30, 3) := by decide +kernel
theorem d_A_append_66 : decode b_A_append 66 = .ok (.return_, 1) := by decide +kernel
theorem d_A_enter_0 : decode b_A_enter 0 = .ok (.iconst 0, 1) := by decide +kernel
theorem d_A_enter_1 : decode b_A_enter 1 = .ok (.istore_n 2, 1) := by decide +kernel
theorem d_A_enter_2 : decode b_A_enter 2 = .ok (.iload_n 2, 1) := by decide +kernel
theorem d_A_enter_3 : decode b_A_enter 3 = .ok (.aload_n 1, 1) := by decide +kernel
theorem d_A_enter_4 : decode b_A_enter 4 = .ok (.invokevirtual 228, 3) := by decide +kernel
theorem d_A_enter_7 : decode b_A_enter 7 = .ok (.if_icmp .ge 27, 3) := by decide +kernel
theorem d_A_enter_10 : decode b_A_enter 10 = .ok (.aload_n 1, 1) := by decide +kernel
theorem d_A_enter_11 : decode b_A_enter 11 = .ok (.iload_n 2, 1) := by decide +kernel
theorem d_A_enter_12 : decode b_A_enter 12 = .ok (.invokevirtual 231, 3) := by decide +kernel
theorem d_A_enter_15 : decode b_A_enter 15 = .ok (.astore_n 3, 1) := by decide +kernel
theorem d_A_enter_16 : decode b_A_enter 16 = .ok (.aload_n 3, 1) := by decide +kernel
theorem d_A_enter_17 : decode b_A_enter 17 = .ok (.ifnull 11, 3) := by decide +kernel
theorem d_A_enter_20 : decode b_A_enter 20 = .ok (.aload_n 0, 1) := by decide +kernel
theorem d_A_enter_21 : decode b_A_enter 21 = .ok (.getfield 19, 3) := by decide +kernel
theorem d_A_enter_24 : decode b_A_enter 24 = .ok (.aload_n 3, 1) := by decide +kernel
theorem d_A_enter_25 : decode b_A_enter 25 = .ok (.invokevirtual 224, 3) := by decide +kernel
theorem d_A_enter_28 : decode b_A_enter 28 = .ok (.iinc 2 1, 3) := by decide +kernel
theorem d_A_enter_31 : decode b_A_enter 31 = .ok (.goto (-29), 3) := by decide +kernel
theorem d_A_enter_34 : decode b_A_enter 34 = .ok (.return_, 1) := by decide +kernel
theorem d_D_init_0 : decode b_D_init 0 = .ok (.aload_n 0, 1) := by decide +kernel
theorem d_D_init_1 : decode b_D_init 1 = .ok (.invokespecial 3, 3) := by decide +kernel
theorem d_D_init_4 : decode b_D_init 4 = .ok (.aload_n 0, 1) := by decide +kernel
theorem d_D_init_5 : decode b_D_init 5 = .ok (.bipush 66, 2) := by decide +kernel
theorem d_D_init_7 : decode b_D_init 7 = .ok (.anewarray 11, 3) := by decide +kernel
theorem d_D_init_10 : decode b_D_init 10 = .ok (.putfield 13, 3) := by decide +kernel
theorem d_D_init_13 : decode b_D_init 13 = .ok (.aload_n 0, 1) := by decide +kernel
theorem d_D_init_14 : decode b_D_init 14 = .ok (.iconst 0, 1) := by decide +kernel
theorem d_D_init_15 : decode b_D_init 15 = .ok (.putfield 19, 3) := by decide +kernel
theorem d_D_init_18 : decode b_D_init 18 = .ok (.return_, 1) := by decide +kernel
theorem d_D_count_0 : decode b_D_count 0 = .ok (.aload_n 0, 1) := by decide +kernel
theorem d_D_count_1 : decode b_D_count 1 = .ok (.getfield 19, 3) := by decide +kernel
theorem d_D_count_4 : decode b_D_count 4 = .ok (.ireturn, 1) := by decide +kernel
theorem d_D_clear_0 : decode b_D_clear 0 = .ok (.aload_n 0, 1) := by decide +kernel
theorem d_D_clear_1 : decode b_D_clear 1 = .ok (.iconst 0, 1) := by decide +kernel
theorem d_D_clear_2 : decode b_D_clear 2 = .ok (.putfield 19, 3) := by decide +kernel
theorem d_D_clear_5 : decode b_D_clear 5 = .ok (.return_, 1) := by decide +kernel
theorem d_D_at_0 : decode b_D_at 0 = .ok (.iload_n 1, 1) := by decide +kernel
theorem d_D_at_1 : decode b_D_at 1 = .ok (.ifCond .lt 20, 3) := by decide +kernel
theorem d_D_at_4 : decode b_D_at 4 = .ok (.iload_n 1, 1) := by decide +kernel
theorem d_D_at_5 : decode b_D_at 5 = .ok (.aload_n 0, 1) := by decide +kernel
theorem d_D_at_6 : decode b_D_at 6 = .ok (.getfield 19, 3) := by decide +kernel
theorem d_D_at_9 : decode b_D_at 9 = .ok (.if_icmp .ge 12, 3) := by decide +kernel
theorem d_D_at_12 : decode b_D_at 12 = .ok (.aload_n 0, 1) := by decide +kernel
theorem d_D_at_13 : decode b_D_at 13 = .ok (.getfield 13, 3) := by decide +kernel
theorem d_D_at_16 : decode b_D_at 16 = .ok (.iload_n 1, 1) := by decide +kernel
theorem d_D_at_17 : decode b_D_at 17 = .ok (.aaload, 1) := by decide +kernel
theorem d_D_at_18 : decode b_D_at 18 = .ok (.goto 4, 3) := by decide +kernel
theorem d_D_at_21 : decode b_D_at 21 = .ok (.aconst_null, 1) := by decide +kernel
theorem d_D_at_22 : decode b_D_at 22 = .ok (.areturn, 1) := by decide +kernel
theorem d_D_find_0 : decode b_D_find 0 = .ok (.aload_n 0, 1) := by decide +kernel
theorem d_D_find_1 : decode b_D_find 1 = .ok (.aload_n 0, 1) := by decide +kernel
theorem d_D_find_2 : decode b_D_find 2 = .ok (.lload_n 1, 1) := by decide +kernel
theorem d_D_find_3 : decode b_D_find 3 = .ok (.invokevirtual 23, 3) := by decide +kernel
theorem d_D_find_6 : decode b_D_find 6 = .ok (.invokevirtual 27, 3) := by decide +kernel
theorem d_D_find_9 : decode b_D_find 9 = .ok (.astore_n 3, 1) := by decide +kernel
theorem d_D_find_10 : decode b_D_find 10 = .ok (.aload_n 3, 1) := by decide +kernel
theorem d_D_find_11 : decode b_D_find 11 = .ok (.ifnull 16, 3) := by decide +kernel
theorem d_D_find_14 : decode b_D_find 14 = .ok (.aload_n 3, 1) := by decide +kernel
theorem d_D_find_15 : decode b_D_find 15 = .ok (.getfield 31, 3) := by decide +kernel
theorem d_D_find_18 : decode b_D_find 18 = .ok (.lload_n 1, 1) := by decide +kernel
theorem d_D_find_19 : decode b_D_find 19 = .ok (.lcmp, 1) := by decide +kernel
theorem d_D_find_20 : decode b_D_find 20 = .ok (.ifCond .ne 7, 3) := by decide +kernel
theorem d_D_find_23 : decode b_D_find 23 = .ok (.aload_n 3, 1) := by decide +kernel
theorem d_D_find_24 : decode b_D_find 24 = .ok (.goto 4, 3) := by decide +kernel
theorem d_D_find_27 : decode b_D_find 27 = .ok (.aconst_null, 1) := by decide +kernel
theorem d_D_find_28 : decode b_D_find 28 = .ok (.areturn, 1) := by decide +kernel
theorem d_D_has_0 : decode b_D_has 0 = .ok (.aload_n 0, 1) := by decide +kernel
theorem d_D_has_1 : decode b_D_has 1 = .ok (.aload_n 1, 1) := by decide +kernel
theorem d_D_has_2 : decode b_D_has 2 = .ok (.getfield 31, 3) := by decide +kernel
theorem d_D_has_5 : decode b_D_has 5 = .ok (.invokevirtual 35, 3) := by decide +kernel
theorem d_D_has_8 : decode b_D_has 8 = .ok (.aload_n 1, 1) := by decide +kernel
theorem d_D_has_9 : decode b_D_has 9 = .ok (.if_acmp .ne 7, 3) := by decide +kernel
theorem d_D_has_12 : decode b_D_has 12 = .ok (.iconst 1, 1) := by decide +kernel
theorem d_D_has_13 : decode b_D_has 13 = .ok (.goto 4, 3) := by decide +kernel
theorem d_D_has_16 : decode b_D_has 16 = .ok (.iconst 0, 1) := by decide +kernel
theorem d_D_has_17 : decode b_D_has 17 = .ok (.ireturn, 1) := by decide +kernel
theorem d_D_enter_0 : decode b_D_enter 0 = .ok (.aload_n 0, 1) := by decide +kernel
theorem d_D_enter_1 : decode b_D_enter 1 = .ok (.aload_n 1, 1) := by decide +kernel
theorem d_D_enter_2 : decode b_D_enter 2 = .ok (.getfield 31, 3) := by decide +kernel
theorem d_D_enter_5 : decode b_D_enter 5 = .ok (.invokevirtual 23, 3) := by decide +kernel
theorem d_D_enter_8 : decode b_D_enter 8 = .ok (.istore_n 2, 1) := by decide +kernel
theorem d_D_enter_9 : decode b_D_enter 9 = .ok (.aload_n 0, 1) := by decide +kernel
theorem d_D_enter_10 : decode b_D_enter 10 = .ok (.iload_n 2, 1) := by decide +kernel
theorem d_D_enter_11 : decode b_D_enter 11 = .ok (.invokevirtual 27, 3) := by decide +kernel
theorem d_D_enter_14 : decode b_D_enter 14 = .ok (.astore_n 3, 1) := by decide +kernel
theorem d_D_enter_15 : decode b_D_enter 15 = .ok (.aload_n 3, 1) := by decide +kernel
theorem d_D_enter_16 : decode b_D_enter 16 = .ok (.ifnull 19, 3) := by decide +kernel
theorem d_D_enter_19 : decode b_D_enter 19 = .ok (.aload_n 3, 1) := by decide +kernel
theorem d_D_enter_20 : decode b_D_enter 20 = .ok (.getfield 31, 3) := by decide +kernel
theorem d_D_enter_23 : decode b_D_enter 23 = .ok (.aload_n 1, 1) := by decide +kernel
theorem d_D_enter_24 : decode b_D_enter 24 = .ok (.getfield 31, 3) := by decide +kernel
theorem d_D_enter_27 : decode b_D_enter 27 = .ok (.lcmp, 1) := by decide +kernel
theorem d_D_enter_28 : decode b_D_enter 28 = .ok (.ifCond .ne 7, 3) := by decide +kernel
theorem d_D_enter_31 : decode b_D_enter 31 = .ok (.iconst 1, 1) := by decide +kernel
theorem d_D_enter_32 : decode b_D_enter 32 = .ok (.goto 4, 3) := by decide +kernel
theorem d_D_enter_35 : decode b_D_enter 35 = .ok (.iconst 0, 1) := by decide +kernel
theorem d_D_enter_36 : decode b_D_enter 36 = .ok (.istore 4, 2) := by decide +kernel
theorem d_D_enter_38 : decode b_D_enter 38 = .ok (.aload_n 1, 1) := by decide +kernel
theorem d_D_enter_39 : decode b_D_enter 39 = .ok (.invokevirtual 39, 3) := by decide +kernel
theorem d_D_enter_42 : decode b_D_enter 42 = .ok (.ifCond .eq 16, 3) := by decide +kernel
theorem d_D_enter_45 : decode b_D_enter 45 = .ok (.iload 4, 2) := by decide +kernel
theorem d_D_enter_47 : decode b_D_enter 47 = .ok (.ifCond .eq 32, 3) := by decide +kernel
theorem d_D_enter_50 : decode b_D_enter 50 = .ok (.aload_n 0, 1) := by decide +kernel
theorem d_D_enter_51 : decode b_D_enter 51 = .ok (.iload_n 2, 1) := by decide +kernel
theorem d_D_enter_52 : decode b_D_enter 52 = .ok (.invokevirtual 43, 3) := by decide +kernel
theorem d_D_enter_55 : decode b_D_enter 55 = .ok (.goto 24, 3) := by decide +kernel
theorem d_D_enter_58 : decode b_D_enter 58 = .ok (.iload 4, 2) := by decide +kernel
theorem d_D_enter_60 : decode b_D_enter 60 = .ok (.ifCond .eq 13, 3) := by decide +kernel
theorem d_D_enter_63 : decode b_D_enter 63 = .ok (.aload_n 0, 1) := by decide +kernel
theorem d_D_enter_64 : decode b_D_enter 64 = .ok (.getfield 13, 3) := by decide +kernel
theorem d_D_enter_67 : decode b_D_enter 67 = .ok (.iload_n 2, 1) := by decide +kernel
theorem d_D_enter_68 : decode b_D_enter 68 = .ok (.aload_n 1, 1) := by decide +kernel
theorem d_D_enter_69 : decode b_D_enter 69 = .ok (.aastore, 1) := by decide +kernel
theorem d_D_enter_70 : decode b_D_enter 70 = .ok (.goto 9, 3) := by decide +kernel
theorem d_D_enter_73 : decode b_D_enter 73 = .ok (.aload_n 0, 1) := by decide +kernel
theorem d_D_enter_74 : decode b_D_enter 74 = .ok (.iload_n 2, 1) := by decide +kernel
theorem d_D_enter_75 : decode b_D_enter 75 = .ok (.aload_n 1, 1) := by decide +kernel
theorem d_D_enter_76 : decode b_D_enter 76 = .ok (.invokevirtual 47, 3) := by decide +kernel
theorem d_D_enter_79 : decode b_D_enter 79 = .ok (.return_, 1) := by decide +kernel
theorem d_D_replace_0 : decode b_D_replace 0 = .ok (.aload_n 1, 1) := by decide +kernel
theorem d_D_replace_1 : decode b_D_replace 1 = .ok (.ifnull 16, 3) := by decide +kernel
theorem d_D_replace_4 : decode b_D_replace 4 = .ok (.aload_n 0, 1) := by decide +kernel
theorem d_D_replace_5 : decode b_D_replace 5 = .ok (.aload_n 1, 1) := by decide +kernel
theorem d_D_replace_6 : decode b_D_replace 6 = .ok (.invokevirtual 51, 3) := by decide +kernel
theorem d_D_replace_9 : decode b_D_replace 9 = .ok (.ifCond .eq 8, 3) := by decide +kernel
theorem d_D_replace_12 : decode b_D_replace 12 = .ok (.aload_n 0, 1) := by decide +kernel
theorem d_D_replace_13 : decode b_D_replace 13 = .ok (.aload_n 2, 1) := by decide +kernel
theorem d_D_replace_14 : decode b_D_replace 14 = .ok (.invokevirtual 55, 3) := by decide +kernel
theorem d_D_replace_17 : decode b_D_replace 17 = .ok (.return_, 1) := by decide +kernel
theorem d_D_firstFrom_0 : decode b_D_firstFrom 0 = .ok (.iconst 0, 1) := by decide +kernel
theorem d_D_firstFrom_1 : decode b_D_firstFrom 1 = .ok (.istore_n 3, 1) := by decide +kernel
theorem d_D_firstFrom_2 : decode b_D_firstFrom 2 = .ok (.iload_n 3, 1) := by decide +kernel
theorem d_D_firstFrom_3 : decode b_D_firstFrom 3 = .ok (.aload_n 0, 1) := by decide +kernel
theorem d_D_firstFrom_4 : decode b_D_firstFrom 4 = .ok (.getfield 19, 3) := by decide +kernel
theorem d_D_firstFrom_7 : decode b_D_firstFrom 7 = .ok (.if_icmp .ge 23, 3) := by decide +kernel
theorem d_D_firstFrom_10 : decode b_D_firstFrom 10 = .ok (.aload_n 0, 1) := by decide +kernel
theorem d_D_firstFrom_11 : decode b_D_firstFrom 11 = .ok (.getfield 13, 3) := by decide +kernel
theorem d_D_firstFrom_14 : decode b_D_firstFrom 14 = .ok (.iload_n 3, 1) := by decide +kernel
theorem d_D_firstFrom_15 : decode b_D_firstFrom 15 = .ok (.aaload, 1) := by decide +kernel
theorem d_D_firstFrom_16 : decode b_D_firstFrom 16 = .ok (.getfield 31, 3) := by decide +kernel
theorem d_D_firstFrom_19 : decode b_D_firstFrom 19 = .ok (.lload_n 1, 1) := by decide +kernel
theorem d_D_firstFrom_20 : decode b_D_firstFrom 20 = .ok (.lcmp, 1) := by decide +kernel
theorem d_D_firstFrom_21 : decode b_D_firstFrom 21 = .ok (.ifCond .ge 9, 3) := by decide +kernel
theorem d_D_firstFrom_24 : decode b_D_firstFrom 24 = .ok (.iinc 3 1, 3) := by decide +kernel
theorem d_D_firstFrom_27 : decode b_D_firstFrom 27 = .ok (.goto (-25), 3) := by decide +kernel
theorem d_D_firstFrom_30 : decode b_D_firstFrom 30 = .ok (.iload_n 3, 1) := by decide +kernel
theorem d_D_firstFrom_31 : decode b_D_firstFrom 31 = .ok (.ireturn, 1) := by decide +kernel
theorem d_D_insert_0 : decode b_D_insert 0 = .ok (.aload_n 0, 1) := by decide +kernel
theorem d_D_insert_1 : decode b_D_insert 1 = .ok (.getfield 19, 3) := by decide +kernel
theorem d_D_insert_4 : decode b_D_insert 4 = .ok (.aload_n 0, 1) := by decide +kernel
theorem d_D_insert_5 : decode b_D_insert 5 = .ok (.getfield 13, 3) := by decide +kernel
theorem d_D_insert_8 : decode b_D_insert 8 = .ok (.arraylength, 1) := by decide +kernel
theorem d_D_insert_9 : decode b_D_insert 9 = .ok (.if_icmp .ne 4, 3) := by decide +kernel
theorem d_D_insert_12 : decode b_D_insert 12 = .ok (.return_, 1) := by decide +kernel
theorem d_D_insert_13 : decode b_D_insert 13 = .ok (.aload_n 0, 1) := by decide +kernel
theorem d_D_insert_14 : decode b_D_insert 14 = .ok (.getfield 19, 3) := by decide +kernel
theorem d_D_insert_17 : decode b_D_insert 17 = .ok (.istore_n 3, 1) := by decide +kernel
theorem d_D_insert_18 : decode b_D_insert 18 = .ok (.iload_n 3, 1) := by decide +kernel
theorem d_D_insert_19 : decode b_D_insert 19 = .ok (.iload_n 1, 1) := by decide +kernel
theorem d_D_insert_20 : decode b_D_insert 20 = .ok (.if_icmp .le 23, 3) := by decide +kernel
theorem d_D_insert_23 : decode b_D_insert 23 = .ok (.aload_n 0, 1) := by decide +kernel
theorem d_D_insert_24 : decode b_D_insert 24 = .ok (.getfield 13, 3) := by decide +kernel
theorem d_D_insert_27 : decode b_D_insert 27 = .ok (.iload_n 3, 1) := by decide +kernel
theorem d_D_insert_28 : decode b_D_insert 28 = .ok (.aload_n 0, 1) := by decide +kernel
theorem d_D_insert_29 : decode b_D_insert 29 = .ok (.getfield 13, 3) := by decide +kernel
theorem d_D_insert_32 : decode b_D_insert 32 = .ok (.iload_n 3, 1) := by decide +kernel
theorem d_D_insert_33 : decode b_D_insert 33 = .ok (.iconst 1, 1) := by decide +kernel
theorem d_D_insert_34 : decode b_D_insert 34 = .ok (.isub, 1) := by decide +kernel
theorem d_D_insert_35 : decode b_D_insert 35 = .ok (.aaload, 1) := by decide +kernel
theorem d_D_insert_36 : decode b_D_insert 36 = .ok (.aastore, 1) := by decide +kernel
theorem d_D_insert_37 : decode b_D_insert 37 = .ok (.iinc 3 (-1), 3) := by decide +kernel
theorem d_D_insert_40 : decode b_D_insert 40 = .ok (.goto (-22), 3) := by decide +kernel
theorem d_D_insert_43 : decode b_D_insert 43 = .ok (.aload_n 0, 1) := by decide +kernel
theorem d_D_insert_44 : decode b_D_insert 44 = .ok (.getfield 13, 3) := by decide +kernel
theorem d_D_insert_47 : decode b_D_insert 47 = .ok (.iload_n 1, 1) := by decide +kernel
theorem d_D_insert_48 : decode b_D_insert 48 = .ok (.aload_n 2, 1) := by decide +kernel
theorem d_D_insert_49 : decode b_D_insert 49 = .ok (.aastore, 1) := by decide +kernel
theorem d_D_insert_50 : decode b_D_insert 50 = .ok (.aload_n 0, 1) := by decide +kernel
theorem d_D_insert_51 : decode b_D_insert 51 = .ok (.dup, 1) := by decide +kernel
theorem d_D_insert_52 : decode b_D_insert 52 = .ok (.getfield 19, 3) := by decide +kernel
theorem d_D_insert_55 : decode b_D_insert 55 = .ok (.iconst 1, 1) := by decide +kernel
theorem d_D_insert_56 : decode b_D_insert 56 = .ok (.iadd, 1) := by decide +kernel
theorem d_D_insert_57 : decode b_D_insert 57 = .ok (.putfield 19, 3) := by decide +kernel
theorem d_D_insert_60 : decode b_D_insert 60 = .ok (.return_, 1) := by decide +kernel
theorem d_D_takeOut_0 : decode b_D_takeOut 0 = .ok (.iload_n 1, 1) := by decide +kernel
theorem d_D_takeOut_1 : decode b_D_takeOut 1 = .ok (.istore_n 2, 1) := by decide +kernel
theorem d_D_takeOut_2 : decode b_D_takeOut 2 = .ok (.iload_n 2, 1) := by decide +kernel
theorem d_D_takeOut_3 : decode b_D_takeOut 3 = .ok (.aload_n 0, 1) := by decide +kernel
theorem d_D_takeOut_4 : decode b_D_takeOut 4 = .ok (.getfield 19, 3) := by decide +kernel
theorem d_D_takeOut_7 : decode b_D_takeOut 7 = .ok (.iconst 1, 1) := by decide +kernel
theorem d_D_takeOut_8 : decode b_D_takeOut 8 = .ok (.isub, 1) := by decide +kernel
theorem d_D_takeOut_9 : decode b_D_takeOut 9 = .ok (.if_icmp .ge 23, 3) := by decide +kernel
theorem d_D_takeOut_12 : decode b_D_takeOut 12 = .ok (.aload_n 0, 1) := by decide +kernel
theorem d_D_takeOut_13 : decode b_D_takeOut 13 = .ok (.getfield 13, 3) := by decide +kernel
theorem d_D_takeOut_16 : decode b_D_takeOut 16 = .ok (.iload_n 2, 1) := by decide +kernel
theorem d_D_takeOut_17 : decode b_D_takeOut 17 = .ok (.aload_n 0, 1) := by decide +kernel
theorem d_D_takeOut_18 : decode b_D_takeOut 18 = .ok (.getfield 13, 3) := by decide +kernel
theorem d_D_takeOut_21 : decode b_D_takeOut 21 = .ok (.iload_n 2, 1) := by decide +kernel
theorem d_D_takeOut_22 : decode b_D_takeOut 22 = .ok (.iconst 1, 1) := by decide +kernel
theorem d_D_takeOut_23 : decode b_D_takeOut 23 = .ok (.iadd, 1) := by decide +kernel
theorem d_D_takeOut_24 : decode b_D_takeOut 24 = .ok (.aaload, 1) := by decide +kernel
theorem d_D_takeOut_25 : decode b_D_takeOut 25 = .ok (.aastore, 1) := by decide +kernel
theorem d_D_takeOut_26 : decode b_D_takeOut 26 = .ok (.iinc 2 1, 3) := by decide +kernel
theorem d_D_takeOut_29 : decode b_D_takeOut 29 = .ok (.goto (-27), 3) := by decide +kernel
theorem d_D_takeOut_32 : decode b_D_takeOut 32 = .ok (.aload_n 0, 1) := by decide +kernel
theorem d_D_takeOut_33 : decode b_D_takeOut 33 = .ok (.dup, 1) := by decide +kernel
theorem d_D_takeOut_34 : decode b_D_takeOut 34 = .ok (.getfield 19, 3) := by decide +kernel
theorem d_D_takeOut_37 : decode b_D_takeOut 37 = .ok (.iconst 1, 1) := by decide +kernel
theorem d_D_takeOut_38 : decode b_D_takeOut 38 = .ok (.isub, 1) := by decide +kernel
theorem d_D_takeOut_39 : decode b_D_takeOut 39 = .ok (.putfield 19, 3) := by decide +kernel
theorem d_D_takeOut_42 : decode b_D_takeOut 42 = .ok (.return_, 1) := by decide +kernel
theorem d_K_rank_0 : decode b_K_rank 0 = .ok (.lload_n 0, 1) := by decide +kernel
theorem d_K_rank_1 : decode b_K_rank 1 = .ok (.lconst 1, 1) := by decide +kernel
theorem d_K_rank_2 : decode b_K_rank 2 = .ok (.bipush 8, 2) := by decide +kernel
theorem d_K_rank_4 : decode b_K_rank 4 = .ok (.iload_n 2, 1) := by decide +kernel
theorem d_K_rank_5 : decode b_K_rank 5 = .ok (.imul, 1) := by decide +kernel
theorem d_K_rank_6 : decode b_K_rank 6 = .ok (.lshl, 1) := by decide +kernel
theorem d_K_rank_7 : decode b_K_rank 7 = .ok (.lconst 1, 1) := by decide +kernel
theorem d_K_rank_8 : decode b_K_rank 8 = .ok (.lsub, 1) := by decide +kernel
theorem d_K_rank_9 : decode b_K_rank 9 = .ok (.land, 1) := by decide +kernel
theorem d_K_rank_10 : decode b_K_rank 10 = .ok (.lstore_n 3, 1) := by decide +kernel
theorem d_K_rank_11 : decode b_K_rank 11 = .ok (.lload_n 3, 1) := by decide +kernel
theorem d_K_rank_12 : decode b_K_rank 12 = .ok (.iload_n 2, 1) := by decide +kernel
theorem d_K_rank_13 : decode b_K_rank 13 = .ok (.invokestatic 7, 3) := by decide +kernel
theorem d_K_rank_16 : decode b_K_rank 16 = .ok (.lshl, 1) := by decide +kernel
theorem d_K_rank_17 : decode b_K_rank 17 = .ok (.iconst 3, 1) := by decide +kernel
theorem d_K_rank_18 : decode b_K_rank 18 = .ok (.lshl, 1) := by decide +kernel
theorem d_K_rank_19 : decode b_K_rank 19 = .ok (.iload_n 2, 1) := by decide +kernel
theorem d_K_rank_20 : decode b_K_rank 20 = .ok (.i2l, 1) := by decide +kernel
theorem d_K_rank_21 : decode b_K_rank 21 = .ok (.lor, 1) := by decide +kernel
theorem d_K_rank_22 : decode b_K_rank 22 = .ok (.lreturn, 1) := by decide +kernel
theorem d_K_size_0 : decode b_K_size 0 = .ok (.lload_n 0, 1) := by decide +kernel
theorem d_K_size_1 : decode b_K_size 1 = .ok (.ldc2_w 13, 3) := by decide +kernel
theorem d_K_size_4 : decode b_K_size 4 = .ok (.land, 1) := by decide +kernel
theorem d_K_size_5 : decode b_K_size 5 = .ok (.l2i, 1) := by decide +kernel
theorem d_K_size_6 : decode b_K_size 6 = .ok (.ireturn, 1) := by decide +kernel
theorem d_K_number_0 : decode b_K_number 0 = .ok (.lload_n 0, 1) := by decide +kernel
theorem d_K_number_1 : decode b_K_number 1 = .ok (.iconst 3, 1) := by decide +kernel
theorem d_K_number_2 : decode b_K_number 2 = .ok (.lushr, 1) := by decide +kernel
theorem d_K_number_3 : decode b_K_number 3 = .ok (.lload_n 0, 1) := by decide +kernel
theorem d_K_number_4 : decode b_K_number 4 = .ok (.invokestatic 15, 3) := by decide +kernel
theorem d_K_number_7 : decode b_K_number 7 = .ok (.invokestatic 7, 3) := by decide +kernel
theorem d_K_number_10 : decode b_K_number 10 = .ok (.lushr, 1) := by decide +kernel
theorem d_K_number_11 : decode b_K_number 11 = .ok (.lreturn, 1) := by decide +kernel
theorem d_K_missingBits_0 : decode b_K_missingBits 0 = .ok (.bipush 8, 2) := by decide +kernel
theorem d_K_missingBits_2 : decode b_K_missingBits 2 = .ok (.iconst 4, 1) := by decide +kernel
theorem d_K_missingBits_3 : decode b_K_missingBits 3 = .ok (.iload_n 0, 1) := by decide +kernel
theorem d_K_missingBits_4 : decode b_K_missingBits 4 = .ok (.isub, 1) := by decide +kernel
theorem d_K_missingBits_5 : decode b_K_missingBits 5 = .ok (.imul, 1) := by decide +kernel
theorem d_K_missingBits_6 : decode b_K_missingBits 6 = .ok (.ireturn, 1) := by decide +kernel
theorem d_Y_valueBytes_0 : decode b_Y_valueBytes 0 = .ok (.iload_n 0, 1) := by decide +kernel
theorem d_Y_valueBytes_1 : decode b_Y_valueBytes 1 = .ok (.sipush 255, 3) := by decide +kernel
theorem d_Y_valueBytes_4 : decode b_Y_valueBytes 4 = .ok (.if_icmp .ne 7, 3) := by decide +kernel
theorem d_Y_valueBytes_7 : decode b_Y_valueBytes 7 = .ok (.iconst 0, 1) := by decide +kernel
theorem d_Y_valueBytes_8 : decode b_Y_valueBytes 8 = .ok (.goto 4, 3) := by decide +kernel
theorem d_Y_valueBytes_11 : decode b_Y_valueBytes 11 = .ok (.iload_n 0, 1) := by decide +kernel
theorem d_Y_valueBytes_12 : decode b_Y_valueBytes 12 = .ok (.ireturn, 1) := by decide +kernel
theorem d_Y_recordBytes_0 : decode b_Y_recordBytes 0 = .ok (.bipush 8, 2) := by decide +kernel
theorem d_Y_recordBytes_2 : decode b_Y_recordBytes 2 = .ok (.iload_n 0, 1) := by decide +kernel
theorem d_Y_recordBytes_3 : decode b_Y_recordBytes 3 = .ok (.iadd, 1) := by decide +kernel
theorem d_Y_recordBytes_4 : decode b_Y_recordBytes 4 = .ok (.iload_n 1, 1) := by decide +kernel
theorem d_Y_recordBytes_5 : decode b_Y_recordBytes 5 = .ok (.invokestatic 9, 3) := by decide +kernel
theorem d_Y_recordBytes_8 : decode b_Y_recordBytes 8 = .ok (.iadd, 1) := by decide +kernel
theorem d_Y_recordBytes_9 : decode b_Y_recordBytes 9 = .ok (.ireturn, 1) := by decide +kernel
theorem d_Y_isKeySize_0 : decode b_Y_isKeySize 0 = .ok (.iload_n 0, 1) := by decide +kernel
theorem d_Y_isKeySize_1 : decode b_Y_isKeySize 1 = .ok (.iconst 1, 1) := by decide +kernel
theorem d_Y_isKeySize_2 : decode b_Y_isKeySize 2 = .ok (.if_icmp .lt 12, 3) := by decide +kernel
theorem d_Y_isKeySize_5 : decode b_Y_isKeySize 5 = .ok (.iload_n 0, 1) := by decide +kernel
theorem d_Y_isKeySize_6 : decode b_Y_isKeySize 6 = .ok (.iconst 4, 1) := by decide +kernel
theorem d_Y_isKeySize_7 : decode b_Y_isKeySize 7 = .ok (.if_icmp .gt 7, 3) := by decide +kernel
theorem d_Y_isKeySize_10 : decode b_Y_isKeySize 10 = .ok (.iconst 1, 1) := by decide +kernel
theorem d_Y_isKeySize_11 : decode b_Y_isKeySize 11 = .ok (.goto 4, 3) := by decide +kernel
theorem d_Y_isKeySize_14 : decode b_Y_isKeySize 14 = .ok (.iconst 0, 1) := by decide +kernel
theorem d_Y_isKeySize_15 : decode b_Y_isKeySize 15 = .ok (.ireturn, 1) := by decide +kernel
theorem d_Y_isValueSize_0 : decode b_Y_isValueSize 0 = .ok (.iload_n 0, 1) := by decide +kernel
theorem d_Y_isValueSize_1 : decode b_Y_isValueSize 1 = .ok (.ifCond .lt 13, 3) := by decide +kernel
theorem d_Y_isValueSize_4 : decode b_Y_isValueSize 4 = .ok (.iload_n 0, 1) := by decide +kernel
theorem d_Y_isValueSize_5 : decode b_Y_isValueSize 5 = .ok (.bipush 8, 2) := by decide +kernel
theorem d_Y_isValueSize_7 : decode b_Y_isValueSize 7 = .ok (.if_icmp .gt 7, 3) := by decide +kernel
theorem d_Y_isValueSize_10 : decode b_Y_isValueSize 10 = .ok (.iconst 1, 1) := by decide +kernel
theorem d_Y_isValueSize_11 : decode b_Y_isValueSize 11 = .ok (.goto 4, 3) := by decide +kernel
theorem d_Y_isValueSize_14 : decode b_Y_isValueSize 14 = .ok (.iconst 0, 1) := by decide +kernel
theorem d_Y_isValueSize_15 : decode b_Y_isValueSize 15 = .ok (.ireturn, 1) := by decide +kernel
theorem d_G_init_0 : decode b_G_init 0 = .ok (.aload_n 0, 1) := by decide +kernel
theorem d_G_init_1 : decode b_G_init 1 = .ok (.invokespecial 3, 3) := by decide +kernel
theorem d_G_init_4 : decode b_G_init 4 = .ok (.aload_n 0, 1) := by decide +kernel
theorem d_G_init_5 : decode b_G_init 5 = .ok (.bipush 6, 2) := by decide +kernel
theorem d_G_init_7 : decode b_G_init 7 = .ok (.anewarray 9, 3) := by decide +kernel
theorem d_G_init_10 : decode b_G_init 10 = .ok (.putfield 11, 3) := by decide +kernel
theorem d_G_init_13 : decode b_G_init 13 = .ok (.iconst 0, 1) := by decide +kernel
theorem d_G_init_14 : decode b_G_init 14 = .ok (.istore_n 1, 1) := by decide +kernel
theorem d_G_init_15 : decode b_G_init 15 = .ok (.iload_n 1, 1) := by decide +kernel
theorem d_G_init_16 : decode b_G_init 16 = .ok (.aload_n 0, 1) := by decide +kernel
theorem d_G_init_17 : decode b_G_init 17 = .ok (.getfield 11, 3) := by decide +kernel
theorem d_G_init_20 : decode b_G_init 20 = .ok (.arraylength, 1) := by decide +kernel
theorem d_G_init_21 : decode b_G_init 21 = .ok (.if_icmp .ge 22, 3) := by decide +kernel
theorem d_G_init_24 : decode b_G_init 24 = .ok (.aload_n 0, 1) := by decide +kernel
theorem d_G_init_25 : decode b_G_init 25 = .ok (.getfield 11, 3) := by decide +kernel
theorem d_G_init_28 : decode b_G_init 28 = .ok (.iload_n 1, 1) := by decide +kernel
theorem d_G_init_29 : decode b_G_init 29 = .ok (.new 9, 3) := by decide +kernel
theorem d_G_init_32 : decode b_G_init 32 = .ok (.dup, 1) := by decide +kernel
theorem d_G_init_33 : decode b_G_init 33 = .ok (.invokespecial 17, 3) := by decide +kernel
theorem d_G_init_36 : decode b_G_init 36 = .ok (.aastore, 1) := by decide +kernel
theorem d_G_init_37 : decode b_G_init 37 = .ok (.iinc 1 1, 3) := by decide +kernel
theorem d_G_init_40 : decode b_G_init 40 = .ok (.goto (-25), 3) := by decide +kernel
theorem d_G_init_43 : decode b_G_init 43 = .ok (.aload_n 0, 1) := by decide +kernel
theorem d_G_init_44 : decode b_G_init 44 = .ok (.iconst 0, 1) := by decide +kernel
theorem d_G_init_45 : decode b_G_init 45 = .ok (.putfield 18, 3) := by decide +kernel
theorem d_G_init_48 : decode b_G_init 48 = .ok (.return_, 1) := by decide +kernel
theorem d_G_goesOn_0 : decode b_G_goesOn 0 = .ok (.aload_n 0, 1) := by decide +kernel
theorem d_G_goesOn_1 : decode b_G_goesOn 1 = .ok (.getfield 18, 3) := by decide +kernel
theorem d_G_goesOn_4 : decode b_G_goesOn 4 = .ok (.ifCond .le 7, 3) := by decide +kernel
theorem d_G_goesOn_7 : decode b_G_goesOn 7 = .ok (.iconst 1, 1) := by decide +kernel
theorem d_G_goesOn_8 : decode b_G_goesOn 8 = .ok (.goto 4, 3) := by decide +kernel
theorem d_G_goesOn_11 : decode b_G_goesOn 11 = .ok (.iconst 0, 1) := by decide +kernel
theorem d_G_goesOn_12 : decode b_G_goesOn 12 = .ok (.ireturn, 1) := by decide +kernel
theorem d_G_begin_0 : decode b_G_begin 0 = .ok (.aload_n 0, 1) := by decide +kernel
theorem d_G_begin_1 : decode b_G_begin 1 = .ok (.iload_n 1, 1) := by decide +kernel
theorem d_G_begin_2 : decode b_G_begin 2 = .ok (.putfield 18, 3) := by decide +kernel
theorem d_G_begin_5 : decode b_G_begin 5 = .ok (.aload_n 0, 1) := by decide +kernel
theorem d_G_begin_6 : decode b_G_begin 6 = .ok (.iconst 0, 1) := by decide +kernel
theorem d_G_begin_7 : decode b_G_begin 7 = .ok (.putfield 22, 3) := by decide +kernel
theorem d_G_begin_10 : decode b_G_begin 10 = .ok (.aload_n 0, 1) := by decide +kernel
theorem d_G_begin_11 : decode b_G_begin 11 = .ok (.iconst 0, 1) := by decide +kernel
theorem d_G_begin_12 : decode b_G_begin 12 = .ok (.putfield 25, 3) := by decide +kernel
theorem d_G_begin_15 : decode b_G_begin 15 = .ok (.aload_n 0, 1) := by decide +kernel
theorem d_G_begin_16 : decode b_G_begin 16 = .ok (.iconst 0, 1) := by decide +kernel
theorem d_G_begin_17 : decode b_G_begin 17 = .ok (.putfield 28, 3) := by decide +kernel
theorem d_G_begin_20 : decode b_G_begin 20 = .ok (.return_, 1) := by decide +kernel
theorem d_G_drop_0 : decode b_G_drop 0 = .ok (.aload_n 0, 1) := by decide +kernel
theorem d_G_drop_1 : decode b_G_drop 1 = .ok (.iconst 0, 1) := by decide +kernel
theorem d_G_drop_2 : decode b_G_drop 2 = .ok (.putfield 18, 3) := by decide +kernel
theorem d_G_drop_5 : decode b_G_drop 5 = .ok (.return_, 1) := by decide +kernel
theorem d_G_advance_0 : decode b_G_advance 0 = .ok (.iconst 0, 1) := by decide +kernel
theorem d_G_advance_1 : decode b_G_advance 1 = .ok (.istore 4, 2) := by decide +kernel
theorem d_G_advance_3 : decode b_G_advance 3 = .ok (.iload 4, 2) := by decide +kernel
theorem d_G_advance_5 : decode b_G_advance 5 = .ok (.iload_n 1, 1) := by decide +kernel
theorem d_G_advance_6 : decode b_G_advance 6 = .ok (.if_icmp .ge 85, 3) := by decide +kernel
theorem d_G_advance_9 : decode b_G_advance 9 = .ok (.aload_n 0, 1) := by decide +kernel
theorem d_G_advance_10 : decode b_G_advance 10 = .ok (.aload_n 2, 1) := by decide +kernel
theorem d_G_advance_11 : decode b_G_advance 11 = .ok (.invokevirtual 31, 3) := by decide +kernel
theorem d_G_advance_14 : decode b_G_advance 14 = .ok (.ifCond .ne 77, 3) := by decide +kernel
theorem d_G_advance_17 : decode b_G_advance 17 = .ok (.aload_n 2, 1) := by decide +kernel
theorem d_G_advance_18 : decode b_G_advance 18 = .ok (.aload_n 0, 1) := by decide +kernel
theorem d_G_advance_19 : decode b_G_advance 19 = .ok (.getfield 25, 3) := by decide +kernel
theorem d_G_advance_22 : decode b_G_advance 22 = .ok (.invokevirtual 35, 3) := by decide +kernel
theorem d_G_advance_25 : decode b_G_advance 25 = .ok (.astore 5, 2) := by decide +kernel
theorem d_G_advance_27 : decode b_G_advance 27 = .ok (.aload 5, 2) := by decide +kernel
theorem d_G_advance_29 : decode b_G_advance 29 = .ok (.ifnonnull 7, 3) := by decide +kernel
theorem d_G_advance_32 : decode b_G_advance 32 = .ok (.aconst_null, 1) := by decide +kernel
theorem d_G_advance_33 : decode b_G_advance 33 = .ok (.goto 12, 3) := by decide +kernel
theorem d_G_advance_36 : decode b_G_advance 36 = .ok (.aload 5, 2) := by decide +kernel
theorem d_G_advance_38 : decode b_G_advance 38 = .ok (.aload_n 0, 1) := by decide +kernel
theorem d_G_advance_39 : decode b_G_advance 39 = .ok (.getfield 28, 3) := by decide +kernel
theorem d_G_advance_42 : decode b_G_advance 42 = .ok (.invokevirtual 41, 3) := by decide +kernel
theorem d_G_advance_45 : decode b_G_advance 45 = .ok (.astore 6, 2) := by decide +kernel
theorem d_G_advance_47 : decode b_G_advance 47 = .ok (.aload 6, 2) := by decide +kernel
theorem d_G_advance_49 : decode b_G_advance 49 = .ok (.ifnull 26, 3) := by decide +kernel
theorem d_G_advance_52 : decode b_G_advance 52 = .ok (.aload_n 3, 1) := by decide +kernel
theorem d_G_advance_53 : decode b_G_advance 53 = .ok (.aload 6, 2) := by decide +kernel
theorem d_G_advance_55 : decode b_G_advance 55 = .ok (.invokevirtual 45, 3) := by decide +kernel
theorem d_G_advance_58 : decode b_G_advance 58 = .ok (.ifCond .eq 17, 3) := by decide +kernel
theorem d_G_advance_61 : decode b_G_advance 61 = .ok (.aload_n 0, 1) := by decide +kernel
theorem d_G_advance_62 : decode b_G_advance 62 = .ok (.aload 6, 2) := by decide +kernel
theorem d_G_advance_64 : decode b_G_advance 64 = .ok (.invokevirtual 51, 3) := by decide +kernel
theorem d_G_advance_67 : decode b_G_advance 67 = .ok (.invokevirtual 57, 3) := by decide +kernel
theorem d_G_advance_70 : decode b_G_advance 70 = .ok (.aload 6, 2) := by decide +kernel
theorem d_G_advance_72 : decode b_G_advance 72 = .ok (.invokevirtual 60, 3) := by decide +kernel
theorem d_G_advance_75 : decode b_G_advance 75 = .ok (.aload_n 0, 1) := by decide +kernel
theorem d_G_advance_76 : decode b_G_advance 76 = .ok (.dup, 1) := by decide +kernel
theorem d_G_advance_77 : decode b_G_advance 77 = .ok (.getfield 28, 3) := by decide +kernel
theorem d_G_advance_80 : decode b_G_advance 80 = .ok (.iconst 1, 1) := by decide +kernel
theorem d_G_advance_81 : decode b_G_advance 81 = .ok (.iadd, 1) := by decide +kernel
theorem d_G_advance_82 : decode b_G_advance 82 = .ok (.putfield 28, 3) := by decide +kernel
theorem d_G_advance_85 : decode b_G_advance 85 = .ok (.iinc 4 1, 3) := by decide +kernel
theorem d_G_advance_88 : decode b_G_advance 88 = .ok (.goto (-85), 3) := by decide +kernel
theorem d_G_advance_91 : decode b_G_advance 91 = .ok (.return_, 1) := by decide +kernel
theorem d_G_cameToAll_0 : decode b_G_cameToAll 0 = .ok (.aload_n 0, 1) := by decide +kernel
theorem d_G_cameToAll_1 : decode b_G_cameToAll 1 = .ok (.getfield 25, 3) := by decide +kernel
theorem d_G_cameToAll_4 : decode b_G_cameToAll 4 = .ok (.aload_n 0, 1) := by decide +kernel
theorem d_G_cameToAll_5 : decode b_G_cameToAll 5 = .ok (.getfield 18, 3) := by decide +kernel
theorem d_G_cameToAll_8 : decode b_G_cameToAll 8 = .ok (.if_icmp .ge 47, 3) := by decide +kernel
theorem d_G_cameToAll_11 : decode b_G_cameToAll 11 = .ok (.aload_n 1, 1) := by decide +kernel
theorem d_G_cameToAll_12 : decode b_G_cameToAll 12 = .ok (.aload_n 0, 1) := by decide +kernel
theorem d_G_cameToAll_13 : decode b_G_cameToAll 13 = .ok (.getfield 25, 3) := by decide +kernel
theorem d_G_cameToAll_16 : decode b_G_cameToAll 16 = .ok (.invokevirtual 35, 3) := by decide +kernel
theorem d_G_cameToAll_19 : decode b_G_cameToAll 19 = .ok (.astore_n 2, 1) := by decide +kernel
theorem d_G_cameToAll_20 : decode b_G_cameToAll 20 = .ok (.aload_n 2, 1) := by decide +kernel
theorem d_G_cameToAll_21 : decode b_G_cameToAll 21 = .ok (.ifnull 16, 3) := by decide +kernel
theorem d_G_cameToAll_24 : decode b_G_cameToAll 24 = .ok (.aload_n 0, 1) := by decide +kernel
theorem d_G_cameToAll_25 : decode b_G_cameToAll 25 = .ok (.getfield 28, 3) := by decide +kernel
theorem d_G_cameToAll_28 : decode b_G_cameToAll 28 = .ok (.aload_n 2, 1) := by decide +kernel
theorem d_G_cameToAll_29 : decode b_G_cameToAll 29 = .ok (.invokevirtual 64, 3) := by decide +kernel
theorem d_G_cameToAll_32 : decode b_G_cameToAll 32 = .ok (.if_icmp .ge 5, 3) := by decide +kernel
theorem d_G_cameToAll_35 : decode b_G_cameToAll 35 = .ok (.iconst 0, 1) := by decide +kernel
theorem d_G_cameToAll_36 : decode b_G_cameToAll 36 = .ok (.ireturn, 1) := by decide +kernel
theorem d_G_cameToAll_37 : decode b_G_cameToAll 37 = .ok (.aload_n 0, 1) := by decide +kernel
theorem d_G_cameToAll_38 : decode b_G_cameToAll 38 = .ok (.dup, 1) := by decide +kernel
theorem d_G_cameToAll_39 : decode b_G_cameToAll 39 = .ok (.getfield 25, 3) := by decide +kernel
theorem d_G_cameToAll_42 : decode b_G_cameToAll 42 = .ok (.iconst 1, 1) := by decide +kernel
theorem d_G_cameToAll_43 : decode b_G_cameToAll 43 = .ok (.iadd, 1) := by decide +kernel
theorem d_G_cameToAll_44 : decode b_G_cameToAll 44 = .ok (.putfield 25, 3) := by decide +kernel
theorem d_G_cameToAll_47 : decode b_G_cameToAll 47 = .ok (.aload_n 0, 1) := by decide +kernel
theorem d_G_cameToAll_48 : decode b_G_cameToAll 48 = .ok (.iconst 0, 1) := by decide +kernel
theorem d_G_cameToAll_49 : decode b_G_cameToAll 49 = .ok (.putfield 28, 3) := by decide +kernel
theorem d_G_cameToAll_52 : decode b_G_cameToAll 52 = .ok (.goto (-52), 3) := by decide +kernel
theorem d_G_cameToAll_55 : decode b_G_cameToAll 55 = .ok (.iconst 1, 1) := by decide +kernel
theorem d_G_cameToAll_56 : decode b_G_cameToAll 56 = .ok (.ireturn, 1) := by decide +kernel
theorem d_G_publish_0 : decode b_G_publish 0 = .ok (.iconst 0, 1) := by decide +kernel
theorem d_G_publish_1 : decode b_G_publish 1 = .ok (.istore_n 3, 1) := by decide +kernel
theorem d_G_publish_2 : decode b_G_publish 2 = .ok (.iload_n 3, 1) := by decide +kernel
theorem d_G_publish_3 : decode b_G_publish 3 = .ok (.aload_n 0, 1) := by decide +kernel
theorem d_G_publish_4 : decode b_G_publish 4 = .ok (.getfield 22, 3) := by decide +kernel
theorem d_G_publish_7 : decode b_G_publish 7 = .ok (.if_icmp .ge 62, 3) := by decide +kernel
theorem d_G_publish_10 : decode b_G_publish 10 = .ok (.aload_n 0, 1) := by decide +kernel
theorem d_G_publish_11 : decode b_G_publish 11 = .ok (.getfield 11, 3) := by decide +kernel
theorem d_G_publish_14 : decode b_G_publish 14 = .ok (.iload_n 3, 1) := by decide +kernel
theorem d_G_publish_15 : decode b_G_publish 15 = .ok (.aaload, 1) := by decide +kernel
theorem d_G_publish_16 : decode b_G_publish 16 = .ok (.astore 4, 2) := by decide +kernel
theorem d_G_publish_18 : decode b_G_publish 18 = .ok (.aload_n 1, 1) := by decide +kernel
theorem d_G_publish_19 : decode b_G_publish 19 = .ok (.iload_n 3, 1) := by decide +kernel
theorem d_G_publish_20 : decode b_G_publish 20 = .ok (.invokevirtual 35, 3) := by decide +kernel
theorem d_G_publish_23 : decode b_G_publish 23 = .ok (.astore 5, 2) := by decide +kernel
theorem d_G_publish_25 : decode b_G_publish 25 = .ok (.aload 4, 2) := by decide +kernel
theorem d_G_publish_27 : decode b_G_publish 27 = .ok (.aload 5, 2) := by decide +kernel
theorem d_G_publish_29 : decode b_G_publish 29 = .ok (.ifnonnull 7, 3) := by decide +kernel
theorem d_G_publish_32 : decode b_G_publish 32 = .ok (.iconst 0, 1) := by decide +kernel
theorem d_G_publish_33 : decode b_G_publish 33 = .ok (.goto 8, 3) := by decide +kernel
theorem d_G_publish_36 : decode b_G_publish 36 = .ok (.aload 5, 2) := by decide +kernel
theorem d_G_publish_38 : decode b_G_publish 38 = .ok (.invokevirtual 67, 3) := by decide +kernel
theorem d_G_publish_41 : decode b_G_publish 41 = .ok (.invokevirtual 70, 3) := by decide +kernel
theorem d_G_publish_44 : decode b_G_publish 44 = .ok (.aload 4, 2) := by decide +kernel
theorem d_G_publish_46 : decode b_G_publish 46 = .ok (.aload_n 2, 1) := by decide +kernel
theorem d_G_publish_47 : decode b_G_publish 47 = .ok (.invokestatic 74, 3) := by decide +kernel
theorem d_G_publish_50 : decode b_G_publish 50 = .ok (.aload_n 0, 1) := by decide +kernel
theorem d_G_publish_51 : decode b_G_publish 51 = .ok (.getfield 11, 3) := by decide +kernel
theorem d_G_publish_54 : decode b_G_publish 54 = .ok (.iload_n 3, 1) := by decide +kernel
theorem d_G_publish_55 : decode b_G_publish 55 = .ok (.aload_n 1, 1) := by decide +kernel
theorem d_G_publish_56 : decode b_G_publish 56 = .ok (.iload_n 3, 1) := by decide +kernel
theorem d_G_publish_57 : decode b_G_publish 57 = .ok (.aload 4, 2) := by decide +kernel
theorem d_G_publish_59 : decode b_G_publish 59 = .ok (.invokevirtual 78, 3) := by decide +kernel
theorem d_G_publish_62 : decode b_G_publish 62 = .ok (.aastore, 1) := by decide +kernel
theorem d_G_publish_63 : decode b_G_publish 63 = .ok (.iinc 3 1, 3) := by decide +kernel
theorem d_G_publish_66 : decode b_G_publish 66 = .ok (.goto (-64), 3) := by decide +kernel
theorem d_G_publish_69 : decode b_G_publish 69 = .ok (.aload_n 0, 1) := by decide +kernel
theorem d_G_publish_70 : decode b_G_publish 70 = .ok (.getfield 22, 3) := by decide +kernel
theorem d_G_publish_73 : decode b_G_publish 73 = .ok (.istore_n 3, 1) := by decide +kernel
theorem d_G_publish_74 : decode b_G_publish 74 = .ok (.iload_n 3, 1) := by decide +kernel
theorem d_G_publish_75 : decode b_G_publish 75 = .ok (.aload_n 0, 1) := by decide +kernel
theorem d_G_publish_76 : decode b_G_publish 76 = .ok (.getfield 18, 3) := by decide +kernel
theorem d_G_publish_79 : decode b_G_publish 79 = .ok (.if_icmp .ge 17, 3) := by decide +kernel
theorem d_G_publish_82 : decode b_G_publish 82 = .ok (.aload_n 1, 1) := by decide +kernel
theorem d_G_publish_83 : decode b_G_publish 83 = .ok (.aload_n 0, 1) := by decide +kernel
theorem d_G_publish_84 : decode b_G_publish 84 = .ok (.getfield 22, 3) := by decide +kernel
theorem d_G_publish_87 : decode b_G_publish 87 = .ok (.invokevirtual 82, 3) := by decide +kernel
theorem d_G_publish_90 : decode b_G_publish 90 = .ok (.iinc 3 1, 3) := by decide +kernel
theorem d_G_publish_93 : decode b_G_publish 93 = .ok (.goto (-19), 3) := by decide +kernel
theorem d_G_publish_96 : decode b_G_publish 96 = .ok (.aload_n 0, 1) := by decide +kernel
theorem d_G_publish_97 : decode b_G_publish 97 = .ok (.invokevirtual 85, 3) := by decide +kernel
theorem d_G_publish_100 : decode b_G_publish 100 = .ok (.return_, 1) := by decide +kernel
theorem d_G_pointToCopies_0 : decode b_G_pointToCopies 0 = .ok (.iconst 0, 1) := by decide +kernel
theorem d_G_pointToCopies_1 : decode b_G_pointToCopies 1 = .ok (.istore_n 2, 1) := by decide +kernel
theorem d_G_pointToCopies_2 : decode b_G_pointToCopies 2 = .ok (.iload_n 2, 1) := by decide +kernel
theorem d_G_pointToCopies_3 : decode b_G_pointToCopies 3 = .ok (.aload_n 0, 1) := by decide +kernel
theorem d_G_pointToCopies_4 : decode b_G_pointToCopies 4 = .ok (.invokevirtual 64, 3) := by decide +kernel
theorem d_G_pointToCopies_7 : decode b_G_pointToCopies 7 = .ok (.if_icmp .ge 28, 3) := by decide +kernel
theorem d_G_pointToCopies_10 : decode b_G_pointToCopies 10 = .ok (.aload_n 0, 1) := by decide +kernel
theorem d_G_pointToCopies_11 : decode b_G_pointToCopies 11 = .ok (.iload_n 2, 1) := by decide +kernel
theorem d_G_pointToCopies_12 : decode b_G_pointToCopies 12 = .ok (.invokevirtual 41, 3) := by decide +kernel
theorem d_G_pointToCopies_15 : decode b_G_pointToCopies 15 = .ok (.astore_n 3, 1) := by decide +kernel
theorem d_G_pointToCopies_16 : decode b_G_pointToCopies 16 = .ok (.aload_n 3, 1) := by decide +kernel
theorem d_G_pointToCopies_17 : decode b_G_pointToCopies 17 = .ok (.ifnull 12, 3) := by decide +kernel
theorem d_G_pointToCopies_20 : decode b_G_pointToCopies 20 = .ok (.aload_n 1, 1) := by decide +kernel
theorem d_G_pointToCopies_21 : decode b_G_pointToCopies 21 = .ok (.aload_n 3, 1) := by decide +kernel
theorem d_G_pointToCopies_22 : decode b_G_pointToCopies 22 = .ok (.getfield 88, 3) := by decide +kernel
theorem d_G_pointToCopies_25 : decode b_G_pointToCopies 25 = .ok (.aload_n 3, 1) := by decide +kernel
theorem d_G_pointToCopies_26 : decode b_G_pointToCopies 26 = .ok (.invokevirtual 92, 3) := by decide +kernel
theorem d_G_pointToCopies_29 : decode b_G_pointToCopies 29 = .ok (.iinc 2 1, 3) := by decide +kernel
theorem d_G_pointToCopies_32 : decode b_G_pointToCopies 32 = .ok (.goto (-30), 3) := by decide +kernel
theorem d_G_pointToCopies_35 : decode b_G_pointToCopies 35 = .ok (.return_, 1) := by decide +kernel
theorem d_G_outputFor_0 : decode b_G_outputFor 0 = .ok (.aload_n 0, 1) := by decide +kernel
theorem d_G_outputFor_1 : decode b_G_outputFor 1 = .ok (.getfield 22, 3) := by decide +kernel
theorem d_G_outputFor_4 : decode b_G_outputFor 4 = .ok (.ifCond .le 28, 3) := by decide +kernel
theorem d_G_outputFor_7 : decode b_G_outputFor 7 = .ok (.aload_n 0, 1) := by decide +kernel
theorem d_G_outputFor_8 : decode b_G_outputFor 8 = .ok (.getfield 11, 3) := by decide +kernel
theorem d_G_outputFor_11 : decode b_G_outputFor 11 = .ok (.aload_n 0, 1) := by decide +kernel
theorem d_G_outputFor_12 : decode b_G_outputFor 12 = .ok (.getfield 22, 3) := by decide +kernel
theorem d_G_outputFor_15 : decode b_G_outputFor 15 = .ok (.iconst 1, 1) := by decide +kernel
theorem d_G_outputFor_16 : decode b_G_outputFor 16 = .ok (.isub, 1) := by decide +kernel
theorem d_G_outputFor_17 : decode b_G_outputFor 17 = .ok (.aaload, 1) := by decide +kernel
theorem d_G_outputFor_18 : decode b_G_outputFor 18 = .ok (.invokevirtual 96, 3) := by decide +kernel
theorem d_G_outputFor_21 : decode b_G_outputFor 21 = .ok (.iload_n 1, 1) := by decide +kernel
theorem d_G_outputFor_22 : decode b_G_outputFor 22 = .ok (.invokevirtual 100, 3) := by decide +kernel
theorem d_G_outputFor_25 : decode b_G_outputFor 25 = .ok (.ifCond .eq 7, 3) := by decide +kernel
theorem d_G_outputFor_28 : decode b_G_outputFor 28 = .ok (.iconst 1, 1) := by decide +kernel
theorem d_G_outputFor_29 : decode b_G_outputFor 29 = .ok (.goto 4, 3) := by decide +kernel
theorem d_G_outputFor_32 : decode b_G_outputFor 32 = .ok (.iconst 0, 1) := by decide +kernel
theorem d_G_outputFor_33 : decode b_G_outputFor 33 = .ok (.istore_n 2, 1) := by decide +kernel
theorem d_G_outputFor_34 : decode b_G_outputFor 34 = .ok (.iload_n 2, 1) := by decide +kernel
theorem d_G_outputFor_35 : decode b_G_outputFor 35 = .ok (.ifCond .ne 38, 3) := by decide +kernel
theorem d_G_outputFor_38 : decode b_G_outputFor 38 = .ok (.aload_n 0, 1) := by decide +kernel
theorem d_G_outputFor_39 : decode b_G_outputFor 39 = .ok (.getfield 22, 3) := by decide +kernel
theorem d_G_outputFor_42 : decode b_G_outputFor 42 = .ok (.aload_n 0, 1) := by decide +kernel
theorem d_G_outputFor_43 : decode b_G_outputFor 43 = .ok (.getfield 11, 3) := by decide +kernel
theorem d_G_outputFor_46 : decode b_G_outputFor 46 = .ok (.arraylength, 1) := by decide +kernel
theorem d_G_outputFor_47 : decode b_G_outputFor 47 = .ok (.if_icmp .ge 26, 3) := by decide +kernel
theorem d_G_outputFor_50 : decode b_G_outputFor 50 = .ok (.aload_n 0, 1) := by decide +kernel
theorem d_G_outputFor_51 : decode b_G_outputFor 51 = .ok (.getfield 11, 3) := by decide +kernel
theorem d_G_outputFor_54 : decode b_G_outputFor 54 = .ok (.aload_n 0, 1) := by decide +kernel
theorem d_G_outputFor_55 : decode b_G_outputFor 55 = .ok (.getfield 22, 3) := by decide +kernel
theorem d_G_outputFor_58 : decode b_G_outputFor 58 = .ok (.aaload, 1) := by decide +kernel
theorem d_G_outputFor_59 : decode b_G_outputFor 59 = .ok (.iconst 0, 1) := by decide +kernel
theorem d_G_outputFor_60 : decode b_G_outputFor 60 = .ok (.invokevirtual 106, 3) := by decide +kernel
theorem d_G_outputFor_63 : decode b_G_outputFor 63 = .ok (.aload_n 0, 1) := by decide +kernel
theorem d_G_outputFor_64 : decode b_G_outputFor 64 = .ok (.dup, 1) := by decide +kernel
theorem d_G_outputFor_65 : decode b_G_outputFor 65 = .ok (.getfield 22, 3) := by decide +kernel
theorem d_G_outputFor_68 : decode b_G_outputFor 68 = .ok (.iconst 1, 1) := by decide +kernel
theorem d_G_outputFor_69 : decode b_G_outputFor 69 = .ok (.iadd, 1) := by decide +kernel
theorem d_G_outputFor_70 : decode b_G_outputFor 70 = .ok (.putfield 22, 3) := by decide +kernel
theorem d_G_outputFor_73 : decode b_G_outputFor 73 = .ok (.aload_n 0, 1) := by decide +kernel
theorem d_G_outputFor_74 : decode b_G_outputFor 74 = .ok (.getfield 11, 3) := by decide +kernel
theorem d_G_outputFor_77 : decode b_G_outputFor 77 = .ok (.aload_n 0, 1) := by decide +kernel
theorem d_G_outputFor_78 : decode b_G_outputFor 78 = .ok (.getfield 22, 3) := by decide +kernel
theorem d_G_outputFor_81 : decode b_G_outputFor 81 = .ok (.iconst 1, 1) := by decide +kernel
theorem d_G_outputFor_82 : decode b_G_outputFor 82 = .ok (.isub, 1) := by decide +kernel
theorem d_G_outputFor_83 : decode b_G_outputFor 83 = .ok (.aaload, 1) := by decide +kernel
theorem d_G_outputFor_84 : decode b_G_outputFor 84 = .ok (.areturn, 1) := by decide +kernel
theorem d_O_init_0 : decode b_O_init 0 = .ok (.aload_n 0, 1) := by decide +kernel
theorem d_O_init_1 : decode b_O_init 1 = .ok (.invokespecial 1, 3) := by decide +kernel
theorem d_O_init_4 : decode b_O_init 4 = .ok (.aload_n 0, 1) := by decide +kernel
theorem d_O_init_5 : decode b_O_init 5 = .ok (.iload_n 1, 1) := by decide +kernel
theorem d_O_init_6 : decode b_O_init 6 = .ok (.newarray .byte, 2) := by decide +kernel
theorem d_O_init_8 : decode b_O_init 8 = .ok (.putfield 7, 3) := by decide +kernel
theorem d_O_init_11 : decode b_O_init 11 = .ok (.aload_n 0, 1) := by decide +kernel
theorem d_O_init_12 : decode b_O_init 12 = .ok (.iconst 0, 1) := by decide +kernel
theorem d_O_init_13 : decode b_O_init 13 = .ok (.putfield 13, 3) := by decide +kernel
theorem d_O_init_16 : decode b_O_init 16 = .ok (.return_, 1) := by decide +kernel
theorem d_O_size_0 : decode b_O_size 0 = .ok (.aload_n 0, 1) := by decide +kernel
theorem d_O_size_1 : decode b_O_size 1 = .ok (.getfield 13, 3) := by decide +kernel
theorem d_O_size_4 : decode b_O_size 4 = .ok (.ireturn, 1) := by decide +kernel
theorem d_O_has_0 : decode b_O_has 0 = .ok (.iload_n 1, 1) := by decide +kernel
theorem d_O_has_1 : decode b_O_has 1 = .ok (.ifCond .lt 15, 3) := by decide +kernel
theorem d_O_has_4 : decode b_O_has 4 = .ok (.iload_n 1, 1) := by decide +kernel
theorem d_O_has_5 : decode b_O_has 5 = .ok (.aload_n 0, 1) := by decide +kernel
theorem d_O_has_6 : decode b_O_has 6 = .ok (.getfield 13, 3) := by decide +kernel
theorem d_O_has_9 : decode b_O_has 9 = .ok (.if_icmp .ge 7, 3) := by decide +kernel
theorem d_O_has_12 : decode b_O_has 12 = .ok (.iconst 1, 1) := by decide +kernel
theorem d_O_has_13 : decode b_O_has 13 = .ok (.goto 4, 3) := by decide +kernel
theorem d_O_has_16 : decode b_O_has 16 = .ok (.iconst 0, 1) := by decide +kernel
theorem d_O_has_17 : decode b_O_has 17 = .ok (.ireturn, 1) := by decide +kernel
theorem d_O_hasRoomFor_0 : decode b_O_hasRoomFor 0 = .ok (.aload_n 0, 1) := by decide +kernel
theorem d_O_hasRoomFor_1 : decode b_O_hasRoomFor 1 = .ok (.getfield 13, 3) := by decide +kernel
theorem d_O_hasRoomFor_4 : decode b_O_hasRoomFor 4 = .ok (.iload_n 1, 1) := by decide +kernel
theorem d_O_hasRoomFor_5 : decode b_O_hasRoomFor 5 = .ok (.iadd, 1) := by decide +kernel
theorem d_O_hasRoomFor_6 : decode b_O_hasRoomFor 6 = .ok (.aload_n 0, 1) := by decide +kernel
theorem d_O_hasRoomFor_7 : decode b_O_hasRoomFor 7 = .ok (.getfield 7, 3) := by decide +kernel
theorem d_O_hasRoomFor_10 : decode b_O_hasRoomFor 10 = .ok (.arraylength, 1) := by decide +kernel
theorem d_O_hasRoomFor_11 : decode b_O_hasRoomFor 11 = .ok (.if_icmp .gt 7, 3) := by decide +kernel
theorem d_O_hasRoomFor_14 : decode b_O_hasRoomFor 14 = .ok (.iconst 1, 1) := by decide +kernel
theorem d_O_hasRoomFor_15 : decode b_O_hasRoomFor 15 = .ok (.goto 4, 3) := by decide +kernel
theorem d_O_hasRoomFor_18 : decode b_O_hasRoomFor 18 = .ok (.iconst 0, 1) := by decide +kernel
theorem d_O_hasRoomFor_19 : decode b_O_hasRoomFor 19 = .ok (.ireturn, 1) := by decide +kernel
theorem d_O_at_0 : decode b_O_at 0 = .ok (.iload_n 1, 1) := by decide +kernel
theorem d_O_at_1 : decode b_O_at 1 = .ok (.ifCond .lt 24, 3) := by decide +kernel
theorem d_O_at_4 : decode b_O_at 4 = .ok (.iload_n 1, 1) := by decide +kernel
theorem d_O_at_5 : decode b_O_at 5 = .ok (.aload_n 0, 1) := by decide +kernel
theorem d_O_at_6 : decode b_O_at 6 = .ok (.getfield 13, 3) := by decide +kernel
theorem d_O_at_9 : decode b_O_at 9 = .ok (.if_icmp .ge 16, 3) := by decide +kernel
theorem d_O_at_12 : decode b_O_at 12 = .ok (.aload_n 0, 1) := by decide +kernel
theorem d_O_at_13 : decode b_O_at 13 = .ok (.getfield 7, 3) := by decide +kernel
theorem d_O_at_16 : decode b_O_at 16 = .ok (.iload_n 1, 1) := by decide +kernel
theorem d_O_at_17 : decode b_O_at 17 = .ok (.baload, 1) := by decide +kernel
theorem d_O_at_18 : decode b_O_at 18 = .ok (.sipush 255, 3) := by decide +kernel
theorem d_O_at_21 : decode b_O_at 21 = .ok (.iand, 1) := by decide +kernel
theorem d_O_at_22 : decode b_O_at 22 = .ok (.goto 4, 3) := by decide +kernel
theorem d_O_at_25 : decode b_O_at 25 = .ok (.iconst 0, 1) := by decide +kernel
theorem d_O_at_26 : decode b_O_at 26 = .ok (.ireturn, 1) := by decide +kernel
theorem d_O_set_0 : decode b_O_set 0 = .ok (.aload_n 0, 1) := by decide +kernel
theorem d_O_set_1 : decode b_O_set 1 = .ok (.iload_n 1, 1) := by decide +kernel
theorem d_O_set_2 : decode b_O_set 2 = .ok (.invokevirtual 17, 3) := by decide +kernel
theorem d_O_set_5 : decode b_O_set 5 = .ok (.ifCond .eq 11, 3) := by decide +kernel
theorem d_O_set_8 : decode b_O_set 8 = .ok (.aload_n 0, 1) := by decide +kernel
theorem d_O_set_9 : decode b_O_set 9 = .ok (.getfield 7, 3) := by decide +kernel
theorem d_O_set_12 : decode b_O_set 12 = .ok (.iload_n 1, 1) := by decide +kernel
theorem d_O_set_13 : decode b_O_set 13 = .ok (.iload_n 2, 1) := by decide +kernel
theorem d_O_set_14 : decode b_O_set 14 = .ok (.i2b, 1) := by decide +kernel
theorem d_O_set_15 : decode b_O_set 15 = .ok (.bastore, 1) := by decide +kernel
theorem d_O_set_16 : decode b_O_set 16 = .ok (.return_, 1) := by decide +kernel
theorem d_O_cutTo_0 : decode b_O_cutTo 0 = .ok (.iload_n 1, 1) := by decide +kernel
theorem d_O_cutTo_1 : decode b_O_cutTo 1 = .ok (.ifCond .lt 16, 3) := by decide +kernel
theorem d_O_cutTo_4 : decode b_O_cutTo 4 = .ok (.iload_n 1, 1) := by decide +kernel
theorem d_O_cutTo_5 : decode b_O_cutTo 5 = .ok (.aload_n 0, 1) := by decide +kernel
theorem d_O_cutTo_6 : decode b_O_cutTo 6 = .ok (.getfield 13, 3) := by decide +kernel
theorem d_O_cutTo_9 : decode b_O_cutTo 9 = .ok (.if_icmp .ge 8, 3) := by decide +kernel
theorem d_O_cutTo_12 : decode b_O_cutTo 12 = .ok (.aload_n 0, 1) := by decide +kernel
theorem d_O_cutTo_13 : decode b_O_cutTo 13 = .ok (.iload_n 1, 1) := by decide +kernel
theorem d_O_cutTo_14 : decode b_O_cutTo 14 = .ok (.putfield 13, 3) := by decide +kernel
theorem d_O_cutTo_17 : decode b_O_cutTo 17 = .ok (.return_, 1) := by decide +kernel
theorem d_O_addByte_0 : decode b_O_addByte 0 = .ok (.aload_n 0, 1) := by decide +kernel
theorem d_O_addByte_1 : decode b_O_addByte 1 = .ok (.getfield 13, 3) := by decide +kernel
theorem d_O_addByte_4 : decode b_O_addByte 4 = .ok (.aload_n 0, 1) := by decide +kernel
theorem d_O_addByte_5 : decode b_O_addByte 5 = .ok (.getfield 7, 3) := by decide +kernel
theorem d_O_addByte_8 : decode b_O_addByte 8 = .ok (.arraylength, 1) := by decide +kernel
theorem d_O_addByte_9 : decode b_O_addByte 9 = .ok (.if_icmp .ge 24, 3) := by decide +kernel
theorem d_O_addByte_12 : decode b_O_addByte 12 = .ok (.aload_n 0, 1) := by decide +kernel
theorem d_O_addByte_13 : decode b_O_addByte 13 = .ok (.getfield 7, 3) := by decide +kernel
theorem d_O_addByte_16 : decode b_O_addByte 16 = .ok (.aload_n 0, 1) := by decide +kernel
theorem d_O_addByte_17 : decode b_O_addByte 17 = .ok (.getfield 13, 3) := by decide +kernel
theorem d_O_addByte_20 : decode b_O_addByte 20 = .ok (.iload_n 1, 1) := by decide +kernel
theorem d_O_addByte_21 : decode b_O_addByte 21 = .ok (.i2b, 1) := by decide +kernel
theorem d_O_addByte_22 : decode b_O_addByte 22 = .ok (.bastore, 1) := by decide +kernel
theorem d_O_addByte_23 : decode b_O_addByte 23 = .ok (.aload_n 0, 1) := by decide +kernel
theorem d_O_addByte_24 : decode b_O_addByte 24 = .ok (.dup, 1) := by decide +kernel
theorem d_O_addByte_25 : decode b_O_addByte 25 = .ok (.getfield 13, 3) := by decide +kernel
theorem d_O_addByte_28 : decode b_O_addByte 28 = .ok (.iconst 1, 1) := by decide +kernel
theorem d_O_addByte_29 : decode b_O_addByte 29 = .ok (.iadd, 1) := by decide +kernel
theorem d_O_addByte_30 : decode b_O_addByte 30 = .ok (.putfield 13, 3) := by decide +kernel
theorem d_O_addByte_33 : decode b_O_addByte 33 = .ok (.return_, 1) := by decide +kernel
theorem d_O_addNumber_0 : decode b_O_addNumber 0 = .ok (.iload_n 3, 1) := by decide +kernel
theorem d_O_addNumber_1 : decode b_O_addNumber 1 = .ok (.iconst 1, 1) := by decide +kernel
theorem d_O_addNumber_2 : decode b_O_addNumber 2 = .ok (.isub, 1) := by decide +kernel
theorem d_O_addNumber_3 : decode b_O_addNumber 3 = .ok (.istore 4, 2) := by decide +kernel
theorem d_O_addNumber_5 : decode b_O_addNumber 5 = .ok (.iload 4, 2) := by decide +kernel
theorem d_O_addNumber_7 : decode b_O_addNumber 7 = .ok (.ifCond .lt 21, 3) := by decide +kernel
theorem d_O_addNumber_10 : decode b_O_addNumber 10 = .ok (.aload_n 0, 1) := by decide +kernel
theorem d_O_addNumber_11 : decode b_O_addNumber 11 = .ok (.lload_n 1, 1) := by decide +kernel
theorem d_O_addNumber_12 : decode b_O_addNumber 12 = .ok (.bipush 8, 2) := by decide +kernel
theorem d_O_addNumber_14 : decode b_O_addNumber 14 = .ok (.iload 4, 2) := by decide +kernel
theorem d_O_addNumber_16 : decode b_O_addNumber 16 = .ok (.imul, 1) := by decide +kernel
theorem d_O_addNumber_17 : decode b_O_addNumber 17 = .ok (.lushr, 1) := by decide +kernel
theorem d_O_addNumber_18 : decode b_O_addNumber 18 = .ok (.l2i, 1) := by decide +kernel
theorem d_O_addNumber_19 : decode b_O_addNumber 19 = .ok (.invokevirtual 21, 3) := by decide +kernel
theorem d_O_addNumber_22 : decode b_O_addNumber 22 = .ok (.iinc 4 (-1), 3) := by decide +kernel
theorem d_O_addNumber_25 : decode b_O_addNumber 25 = .ok (.goto (-20), 3) := by decide +kernel
theorem d_O_addNumber_28 : decode b_O_addNumber 28 = .ok (.return_, 1) := by decide +kernel
theorem d_O_addFrom_0 : decode b_O_addFrom 0 = .ok (.iconst 0, 1) := by decide +kernel
theorem d_O_addFrom_1 : decode b_O_addFrom 1 = .ok (.istore 4, 2) := by decide +kernel
theorem d_O_addFrom_3 : decode b_O_addFrom 3 = .ok (.iload 4, 2) := by decide +kernel
theorem d_O_addFrom_5 : decode b_O_addFrom 5 = .ok (.iload_n 3, 1) := by decide +kernel
theorem d_O_addFrom_6 : decode b_O_addFrom 6 = .ok (.if_icmp .ge 21, 3) := by decide +kernel
theorem d_O_addFrom_9 : decode b_O_addFrom 9 = .ok (.aload_n 0, 1) := by decide +kernel
theorem d_O_addFrom_10 : decode b_O_addFrom 10 = .ok (.aload_n 1, 1) := by decide +kernel
theorem d_O_addFrom_11 : decode b_O_addFrom 11 = .ok (.iload_n 2, 1) := by decide +kernel
theorem d_O_addFrom_12 : decode b_O_addFrom 12 = .ok (.iload 4, 2) := by decide +kernel
theorem d_O_addFrom_14 : decode b_O_addFrom 14 = .ok (.iadd, 1) := by decide +kernel
theorem d_O_addFrom_15 : decode b_O_addFrom 15 = .ok (.invokevirtual 25, 3) := by decide +kernel
theorem d_O_addFrom_18 : decode b_O_addFrom 18 = .ok (.invokevirtual 21, 3) := by decide +kernel
theorem d_O_addFrom_21 : decode b_O_addFrom 21 = .ok (.iinc 4 1, 3) := by decide +kernel
theorem d_O_addFrom_24 : decode b_O_addFrom 24 = .ok (.goto (-21), 3) := by decide +kernel
theorem d_O_addFrom_27 : decode b_O_addFrom 27 = .ok (.return_, 1) := by decide +kernel
theorem d_O_number_0 : decode b_O_number 0 = .ok (.lconst 0, 1) := by decide +kernel
theorem d_O_number_1 : decode b_O_number 1 = .ok (.lstore_n 3, 1) := by decide +kernel
theorem d_O_number_2 : decode b_O_number 2 = .ok (.iconst 0, 1) := by decide +kernel
theorem d_O_number_3 : decode b_O_number 3 = .ok (.istore 5, 2) := by decide +kernel
theorem d_O_number_5 : decode b_O_number 5 = .ok (.iload 5, 2) := by decide +kernel
theorem d_O_number_7 : decode b_O_number 7 = .ok (.iload_n 2, 1) := by decide +kernel
theorem d_O_number_8 : decode b_O_number 8 = .ok (.if_icmp .ge 24, 3) := by decide +kernel
theorem d_O_number_11 : decode b_O_number 11 = .ok (.lload_n 3, 1) := by decide +kernel
theorem d_O_number_12 : decode b_O_number 12 = .ok (.bipush 8, 2) := by decide +kernel
theorem d_O_number_14 : decode b_O_number 14 = .ok (.lshl, 1) := by decide +kernel
theorem d_O_number_15 : decode b_O_number 15 = .ok (.aload_n 0, 1) := by decide +kernel
theorem d_O_number_16 : decode b_O_number 16 = .ok (.iload_n 1, 1) := by decide +kernel
theorem d_O_number_17 : decode b_O_number 17 = .ok (.iload 5, 2) := by decide +kernel
theorem d_O_number_19 : decode b_O_number 19 = .ok (.iadd, 1) := by decide +kernel
theorem d_O_number_20 : decode b_O_number 20 = .ok (.invokevirtual 25, 3) := by decide +kernel
theorem d_O_number_23 : decode b_O_number 23 = .ok (.i2l, 1) := by decide +kernel
theorem d_O_number_24 : decode b_O_number 24 = .ok (.lor, 1) := by decide +kernel
theorem d_O_number_25 : decode b_O_number 25 = .ok (.lstore_n 3, 1) := by decide +kernel
theorem d_O_number_26 : decode b_O_number 26 = .ok (.iinc 5 1, 3) := by decide +kernel
theorem d_O_number_29 : decode b_O_number 29 = .ok (.goto (-24), 3) := by decide +kernel
theorem d_O_number_32 : decode b_O_number 32 = .ok (.lload_n 3, 1) := by decide +kernel
theorem d_O_number_33 : decode b_O_number 33 = .ok (.lreturn, 1) := by decide +kernel
theorem d_O_setSum_0 : decode b_O_setSum 0 = .ok (.iconst 0, 1) := by decide +kernel
theorem d_O_setSum_1 : decode b_O_setSum 1 = .ok (.istore 4, 2) := by decide +kernel
theorem d_O_setSum_3 : decode b_O_setSum 3 = .ok (.iload 4, 2) := by decide +kernel
theorem d_O_setSum_5 : decode b_O_setSum 5 = .ok (.iconst 4, 1) := by decide +kernel
theorem d_O_setSum_6 : decode b_O_setSum 6 = .ok (.if_icmp .ge 27, 3) := by decide +kernel
theorem d_O_setSum_9 : decode b_O_setSum 9 = .ok (.aload_n 0, 1) := by decide +kernel
theorem d_O_setSum_10 : decode b_O_setSum 10 = .ok (.iload_n 1, 1) := by decide +kernel
theorem d_O_setSum_11 : decode b_O_setSum 11 = .ok (.iload 4, 2) := by decide +kernel
theorem d_O_setSum_13 : decode b_O_setSum 13 = .ok (.iadd, 1) := by decide +kernel
theorem d_O_setSum_14 : decode b_O_setSum 14 = .ok (.lload_n 2, 1) := by decide +kernel
theorem d_O_setSum_15 : decode b_O_setSum 15 = .ok (.bipush 8, 2) := by decide +kernel
theorem d_O_setSum_17 : decode b_O_setSum 17 = .ok (.iconst 3, 1) := by decide +kernel
theorem d_O_setSum_18 : decode b_O_setSum 18 = .ok (.iload 4, 2) := by decide +kernel
theorem d_O_setSum_20 : decode b_O_setSum 20 = .ok (.isub, 1) := by decide +kernel
theorem d_O_setSum_21 : decode b_O_setSum 21 = .ok (.imul, 1) := by decide +kernel
theorem d_O_setSum_22 : decode b_O_setSum 22 = .ok (.lushr, 1) := by decide +kernel
theorem d_O_setSum_23 : decode b_O_setSum 23 = .ok (.l2i, 1) := by decide +kernel
theorem d_O_setSum_24 : decode b_O_setSum 24 = .ok (.invokevirtual 31, 3) := by decide +kernel
theorem d_O_setSum_27 : decode b_O_setSum 27 = .ok (.iinc 4 1, 3) := by decide +kernel
theorem d_O_setSum_30 : decode b_O_setSum 30 = .ok (.goto (-27), 3) := by decide +kernel
theorem d_O_setSum_33 : decode b_O_setSum 33 = .ok (.return_, 1) := by decide +kernel
theorem d_O_sum_0 : decode b_O_sum 0 = .ok (.iconst (-1), 1) := by decide +kernel
theorem d_O_sum_1 : decode b_O_sum 1 = .ok (.istore_n 3, 1) := by decide +kernel
theorem d_O_sum_2 : decode b_O_sum 2 = .ok (.iload_n 1, 1) := by decide +kernel
theorem d_O_sum_3 : decode b_O_sum 3 = .ok (.istore 4, 2) := by decide +kernel
theorem d_O_sum_5 : decode b_O_sum 5 = .ok (.iload 4, 2) := by decide +kernel
theorem d_O_sum_7 : decode b_O_sum 7 = .ok (.iload_n 2, 1) := by decide +kernel
theorem d_O_sum_8 : decode b_O_sum 8 = .ok (.if_icmp .ge 53, 3) := by decide +kernel
theorem d_O_sum_11 : decode b_O_sum 11 = .ok (.iload_n 3, 1) := by decide +kernel
theorem d_O_sum_12 : decode b_O_sum 12 = .ok (.aload_n 0, 1) := by decide +kernel
theorem d_O_sum_13 : decode b_O_sum 13 = .ok (.iload 4, 2) := by decide +kernel
theorem d_O_sum_15 : decode b_O_sum 15 = .ok (.invokevirtual 25, 3) := by decide +kernel
theorem d_O_sum_18 : decode b_O_sum 18 = .ok (.ixor, 1) := by decide +kernel
theorem d_O_sum_19 : decode b_O_sum 19 = .ok (.istore_n 3, 1) := by decide +kernel
theorem d_O_sum_20 : decode b_O_sum 20 = .ok (.iconst 0, 1) := by decide +kernel
theorem d_O_sum_21 : decode b_O_sum 21 = .ok (.istore 5, 2) := by decide +kernel
theorem d_O_sum_23 : decode b_O_sum 23 = .ok (.iload 5, 2) := by decide +kernel
theorem d_O_sum_25 : decode b_O_sum 25 = .ok (.bipush 8, 2) := by decide +kernel
theorem d_O_sum_27 : decode b_O_sum 27 = .ok (.if_icmp .ge 28, 3) := by decide +kernel
theorem d_O_sum_30 : decode b_O_sum 30 = .ok (.iload_n 3, 1) := by decide +kernel
theorem d_O_sum_31 : decode b_O_sum 31 = .ok (.iconst 1, 1) := by decide +kernel
theorem d_O_sum_32 : decode b_O_sum 32 = .ok (.iand, 1) := by decide +kernel
theorem d_O_sum_33 : decode b_O_sum 33 = .ok (.ifCond .eq 12, 3) := by decide +kernel
theorem d_O_sum_36 : decode b_O_sum 36 = .ok (.iload_n 3, 1) := by decide +kernel
theorem d_O_sum_37 : decode b_O_sum 37 = .ok (.iconst 1, 1) := by decide +kernel
theorem d_O_sum_38 : decode b_O_sum 38 = .ok (.iushr, 1) := by decide +kernel
theorem d_O_sum_39 : decode b_O_sum 39 = .ok (.ldc 35, 2) := by decide +kernel
theorem d_O_sum_41 : decode b_O_sum 41 = .ok (.ixor, 1) := by decide +kernel
theorem d_O_sum_42 : decode b_O_sum 42 = .ok (.goto 6, 3) := by decide +kernel
theorem d_O_sum_45 : decode b_O_sum 45 = .ok (.iload_n 3, 1) := by decide +kernel
theorem d_O_sum_46 : decode b_O_sum 46 = .ok (.iconst 1, 1) := by decide +kernel
theorem d_O_sum_47 : decode b_O_sum 47 = .ok (.iushr, 1) := by decide +kernel
theorem d_O_sum_48 : decode b_O_sum 48 = .ok (.istore_n 3, 1) := by decide +kernel
theorem d_O_sum_49 : decode b_O_sum 49 = .ok (.iinc 5 1, 3) := by decide +kernel
theorem d_O_sum_52 : decode b_O_sum 52 = .ok (.goto (-29), 3) := by decide +kernel
theorem d_O_sum_55 : decode b_O_sum 55 = .ok (.iinc 4 1, 3) := by decide +kernel
theorem d_O_sum_58 : decode b_O_sum 58 = .ok (.goto (-53), 3) := by decide +kernel
theorem d_O_sum_61 : decode b_O_sum 61 = .ok (.iload_n 3, 1) := by decide +kernel
theorem d_O_sum_62 : decode b_O_sum 62 = .ok (.iconst (-1), 1) := by decide +kernel
theorem d_O_sum_63 : decode b_O_sum 63 = .ok (.ixor, 1) := by decide +kernel
theorem d_O_sum_64 : decode b_O_sum 64 = .ok (.i2l, 1) := by decide +kernel
theorem d_O_sum_65 : decode b_O_sum 65 = .ok (.ldc2_w 36, 3) := by decide +kernel
theorem d_O_sum_68 : decode b_O_sum 68 = .ok (.land, 1) := by decide +kernel
theorem d_O_sum_69 : decode b_O_sum 69 = .ok (.lreturn, 1) := by decide +kernel
theorem d_R_init_0 : decode b_R_init 0 = .ok (.aload_n 0, 1) := by decide +kernel
theorem d_R_init_1 : decode b_R_init 1 = .ok (.invokespecial 1, 3) := by decide +kernel
theorem d_R_init_4 : decode b_R_init 4 = .ok (.return_, 1) := by decide +kernel
theorem d_R_isTombstone_0 : decode b_R_isTombstone 0 = .ok (.aload_n 0, 1) := by decide +kernel
theorem d_R_isTombstone_1 : decode b_R_isTombstone 1 = .ok (.getfield 7, 3) := by decide +kernel
theorem d_R_isTombstone_4 : decode b_R_isTombstone 4 = .ok (.sipush 255, 3) := by decide +kernel
theorem d_R_isTombstone_7 : decode b_R_isTombstone 7 = .ok (.if_icmp .ne 7, 3) := by decide +kernel
theorem d_R_isTombstone_10 : decode b_R_isTombstone 10 = .ok (.iconst 1, 1) := by decide +kernel
theorem d_R_isTombstone_11 : decode b_R_isTombstone 11 = .ok (.goto 4, 3) := by decide +kernel
theorem d_R_isTombstone_14 : decode b_R_isTombstone 14 = .ok (.iconst 0, 1) := by decide +kernel
theorem d_R_isTombstone_15 : decode b_R_isTombstone 15 = .ok (.ireturn, 1) := by decide +kernel
theorem d_R_keySize_0 : decode b_R_keySize 0 = .ok (.aload_n 0, 1) := by decide +kernel
theorem d_R_keySize_1 : decode b_R_keySize 1 = .ok (.getfield 15, 3) := by decide +kernel
theorem d_R_keySize_4 : decode b_R_keySize 4 = .ok (.invokestatic 19, 3) := by decide +kernel
theorem d_R_keySize_7 : decode b_R_keySize 7 = .ok (.ireturn, 1) := by decide +kernel
theorem d_R_size_0 : decode b_R_size 0 = .ok (.aload_n 0, 1) := by decide +kernel
theorem d_R_size_1 : decode b_R_size 1 = .ok (.invokevirtual 25, 3) := by decide +kernel
theorem d_R_size_4 : decode b_R_size 4 = .ok (.aload_n 0, 1) := by decide +kernel
theorem d_R_size_5 : decode b_R_size 5 = .ok (.getfield 7, 3) := by decide +kernel
theorem d_R_size_8 : decode b_R_size 8 = .ok (.invokestatic 29, 3) := by decide +kernel
theorem d_R_size_11 : decode b_R_size 11 = .ok (.ireturn, 1) := by decide +kernel
theorem d_R_fileNumber_0 : decode b_R_fileNumber 0 = .ok (.aload_n 0, 1) := by decide +kernel
theorem d_R_fileNumber_1 : decode b_R_fileNumber 1 = .ok (.getfield 33, 3) := by decide +kernel
theorem d_R_fileNumber_4 : decode b_R_fileNumber 4 = .ok (.ifnonnull 7, 3) := by decide +kernel
theorem d_R_fileNumber_7 : decode b_R_fileNumber 7 = .ok (.iconst 0, 1) := by decide +kernel
theorem d_R_fileNumber_8 : decode b_R_fileNumber 8 = .ok (.goto 10, 3) := by decide +kernel
theorem d_R_fileNumber_11 : decode b_R_fileNumber 11 = .ok (.aload_n 0, 1) := by decide +kernel
theorem d_R_fileNumber_12 : decode b_R_fileNumber 12 = .ok (.getfield 33, 3) := by decide +kernel
theorem d_R_fileNumber_15 : decode b_R_fileNumber 15 = .ok (.invokevirtual 37, 3) := by decide +kernel
theorem d_R_fileNumber_18 : decode b_R_fileNumber 18 = .ok (.ireturn, 1) := by decide +kernel
theorem d_R_isBroken_0 : decode b_R_isBroken 0 = .ok (.aload_n 0, 1) := by decide +kernel
theorem d_R_isBroken_1 : decode b_R_isBroken 1 = .ok (.getfield 33, 3) := by decide +kernel
theorem d_R_isBroken_4 : decode b_R_isBroken 4 = .ok (.ifnull 21, 3) := by decide +kernel
theorem d_R_isBroken_7 : decode b_R_isBroken 7 = .ok (.aload_n 0, 1) := by decide +kernel
theorem d_R_isBroken_8 : decode b_R_isBroken 8 = .ok (.getfield 33, 3) := by decide +kernel
theorem d_R_isBroken_11 : decode b_R_isBroken 11 = .ok (.aload_n 0, 1) := by decide +kernel
theorem d_R_isBroken_12 : decode b_R_isBroken 12 = .ok (.getfield 42, 3) := by decide +kernel
theorem d_R_isBroken_15 : decode b_R_isBroken 15 = .ok (.aload_n 0, 1) := by decide +kernel
theorem d_R_isBroken_16 : decode b_R_isBroken 16 = .ok (.invokevirtual 45, 3) := by decide +kernel
theorem d_R_isBroken_19 : decode b_R_isBroken 19 = .ok (.invokevirtual 47, 3) := by decide +kernel
theorem d_R_isBroken_22 : decode b_R_isBroken 22 = .ok (.ifCond .ne 7, 3) := by decide +kernel
theorem d_R_isBroken_25 : decode b_R_isBroken 25 = .ok (.iconst 1, 1) := by decide +kernel
theorem d_R_isBroken_26 : decode b_R_isBroken 26 = .ok (.goto 4, 3) := by decide +kernel
theorem d_R_isBroken_29 : decode b_R_isBroken 29 = .ok (.iconst 0, 1) := by decide +kernel
theorem d_R_isBroken_30 : decode b_R_isBroken 30 = .ok (.ireturn, 1) := by decide +kernel
theorem d_R_value_0 : decode b_R_value 0 = .ok (.aload_n 0, 1) := by decide +kernel
theorem d_R_value_1 : decode b_R_value 1 = .ok (.getfield 33, 3) := by decide +kernel
theorem d_R_value_4 : decode b_R_value 4 = .ok (.ifnonnull 7, 3) := by decide +kernel
theorem d_R_value_7 : decode b_R_value 7 = .ok (.lconst 0, 1) := by decide +kernel
theorem d_R_value_8 : decode b_R_value 8 = .ok (.goto 32, 3) := by decide +kernel
theorem d_R_value_11 : decode b_R_value 11 = .ok (.aload_n 0, 1) := by decide +kernel
theorem d_R_value_12 : decode b_R_value 12 = .ok (.getfield 33, 3) := by decide +kernel
theorem d_R_value_15 : decode b_R_value 15 = .ok (.invokevirtual 51, 3) := by decide +kernel
theorem d_R_value_18 : decode b_R_value 18 = .ok (.aload_n 0, 1) := by decide +kernel
theorem d_R_value_19 : decode b_R_value 19 = .ok (.getfield 42, 3) := by decide +kernel
theorem d_R_value_22 : decode b_R_value 22 = .ok (.bipush 8, 2) := by decide +kernel
theorem d_R_value_24 : decode b_R_value 24 = .ok (.iadd, 1) := by decide +kernel
theorem d_R_value_25 : decode b_R_value 25 = .ok (.aload_n 0, 1) := by decide +kernel
theorem d_R_value_26 : decode b_R_value 26 = .ok (.invokevirtual 25, 3) := by decide +kernel
theorem d_R_value_29 : decode b_R_value 29 = .ok (.iadd, 1) := by decide +kernel
theorem d_R_value_30 : decode b_R_value 30 = .ok (.aload_n 0, 1) := by decide +kernel
theorem d_R_value_31 : decode b_R_value 31 = .ok (.getfield 7, 3) := by decide +kernel
theorem d_R_value_34 : decode b_R_value 34 = .ok (.invokestatic 55, 3) := by decide +kernel
theorem d_R_value_37 : decode b_R_value 37 = .ok (.invokevirtual 59, 3) := by decide +kernel
theorem d_R_value_40 : decode b_R_value 40 = .ok (.lreturn, 1) := by decide +kernel
theorem d_R_addBytesTo_0 : decode b_R_addBytesTo 0 = .ok (.aload_n 0, 1) := by decide +kernel
theorem d_R_addBytesTo_1 : decode b_R_addBytesTo 1 = .ok (.getfield 33, 3) := by decide +kernel
theorem d_R_addBytesTo_4 : decode b_R_addBytesTo 4 = .ok (.ifnull 22, 3) := by decide +kernel
theorem d_R_addBytesTo_7 : decode b_R_addBytesTo 7 = .ok (.aload_n 1, 1) := by decide +kernel
theorem d_R_addBytesTo_8 : decode b_R_addBytesTo 8 = .ok (.aload_n 0, 1) := by decide +kernel
theorem d_R_addBytesTo_9 : decode b_R_addBytesTo 9 = .ok (.getfield 33, 3) := by decide +kernel
theorem d_R_addBytesTo_12 : decode b_R_addBytesTo 12 = .ok (.invokevirtual 51, 3) := by decide +kernel
theorem d_R_addBytesTo_15 : decode b_R_addBytesTo 15 = .ok (.aload_n 0, 1) := by decide +kernel
theorem d_R_addBytesTo_16 : decode b_R_addBytesTo 16 = .ok (.getfield 42, 3) := by decide +kernel
theorem d_R_addBytesTo_19 : decode b_R_addBytesTo 19 = .ok (.aload_n 0, 1) := by decide +kernel
theorem d_R_addBytesTo_20 : decode b_R_addBytesTo 20 = .ok (.invokevirtual 45, 3) := by decide +kernel
theorem d_R_addBytesTo_23 : decode b_R_addBytesTo 23 = .ok (.invokevirtual 64, 3) := by decide +kernel
theorem d_R_addBytesTo_26 : decode b_R_addBytesTo 26 = .ok (.return_, 1) := by decide +kernel
theorem d_S_init_0 : decode b_S_init 0 = .ok (.aload_n 0, 1) := by decide +kernel
theorem d_S_init_1 : decode b_S_init 1 = .ok (.invokespecial 3, 3) := by decide +kernel
theorem d_S_init_4 : decode b_S_init 4 = .ok (.aload_n 0, 1) := by decide +kernel
theorem d_S_init_5 : decode b_S_init 5 = .ok (.bipush 6, 2) := by decide +kernel
theorem d_S_init_7 : decode b_S_init 7 = .ok (.anewarray 9, 3) := by decide +kernel
theorem d_S_init_10 : decode b_S_init 10 = .ok (.putfield 11, 3) := by decide +kernel
theorem d_S_init_13 : decode b_S_init 13 = .ok (.iconst 0, 1) := by decide +kernel
theorem d_S_init_14 : decode b_S_init 14 = .ok (.istore_n 1, 1) := by decide +kernel
theorem d_S_init_15 : decode b_S_init 15 = .ok (.iload_n 1, 1) := by decide +kernel
theorem d_S_init_16 : decode b_S_init 16 = .ok (.aload_n 0, 1) := by decide +kernel
theorem d_S_init_17 : decode b_S_init 17 = .ok (.getfield 11, 3) := by decide +kernel
theorem d_S_init_20 : decode b_S_init 20 = .ok (.arraylength, 1) := by decide +kernel
theorem d_S_init_21 : decode b_S_init 21 = .ok (.if_icmp .ge 22, 3) := by decide +kernel
theorem d_S_init_24 : decode b_S_init 24 = .ok (.aload_n 0, 1) := by decide +kernel
theorem d_S_init_25 : decode b_S_init 25 = .ok (.getfield 11, 3) := by decide +kernel
theorem d_S_init_28 : decode b_S_init 28 = .ok (.iload_n 1, 1) := by decide +kernel
theorem d_S_init_29 : decode b_S_init 29 = .ok (.new 9, 3) := by decide +kernel
theorem d_S_init_32 : decode b_S_init 32 = .ok (.dup, 1) := by decide +kernel
theorem d_S_init_33 : decode b_S_init 33 = .ok (.invokespecial 17, 3) := by decide +kernel
theorem d_S_init_36 : decode b_S_init 36 = .ok (.aastore, 1) := by decide +kernel
theorem d_S_init_37 : decode b_S_init 37 = .ok (.iinc 1 1, 3) := by decide +kernel
theorem d_S_init_40 : decode b_S_init 40 = .ok (.goto (-25), 3) := by decide +kernel
theorem d_S_init_43 : decode b_S_init 43 = .ok (.aload_n 0, 1) := by decide +kernel
theorem d_S_init_44 : decode b_S_init 44 = .ok (.iconst 0, 1) := by decide +kernel
theorem d_S_init_45 : decode b_S_init 45 = .ok (.putfield 18, 3) := by decide +kernel
theorem d_S_init_48 : decode b_S_init 48 = .ok (.aload_n 0, 1) := by decide +kernel
theorem d_S_init_49 : decode b_S_init 49 = .ok (.aconst_null, 1) := by decide +kernel
theorem d_S_init_50 : decode b_S_init 50 = .ok (.putfield 22, 3) := by decide +kernel
theorem d_S_init_53 : decode b_S_init 53 = .ok (.aload_n 0, 1) := by decide +kernel
theorem d_S_init_54 : decode b_S_init 54 = .ok (.iconst 0, 1) := by decide +kernel
theorem d_S_init_55 : decode b_S_init 55 = .ok (.putfield 26, 3) := by decide +kernel
theorem d_S_init_58 : decode b_S_init 58 = .ok (.return_, 1) := by decide +kernel
theorem d_S_count_0 : decode b_S_count 0 = .ok (.aload_n 0, 1) := by decide +kernel
theorem d_S_count_1 : decode b_S_count 1 = .ok (.getfield 18, 3) := by decide +kernel
theorem d_S_count_4 : decode b_S_count 4 = .ok (.ireturn, 1) := by decide +kernel
theorem d_S_at_0 : decode b_S_at 0 = .ok (.iload_n 1, 1) := by decide +kernel
theorem d_S_at_1 : decode b_S_at 1 = .ok (.ifCond .lt 20, 3) := by decide +kernel
theorem d_S_at_4 : decode b_S_at 4 = .ok (.iload_n 1, 1) := by decide +kernel
theorem d_S_at_5 : decode b_S_at 5 = .ok (.aload_n 0, 1) := by decide +kernel
theorem d_S_at_6 : decode b_S_at 6 = .ok (.getfield 18, 3) := by decide +kernel
theorem d_S_at_9 : decode b_S_at 9 = .ok (.if_icmp .ge 12, 3) := by decide +kernel
theorem d_S_at_12 : decode b_S_at 12 = .ok (.aload_n 0, 1) := by decide +kernel
theorem d_S_at_13 : decode b_S_at 13 = .ok (.getfield 11, 3) := by decide +kernel
theorem d_S_at_16 : decode b_S_at 16 = .ok (.iload_n 1, 1) := by decide +kernel
theorem d_S_at_17 : decode b_S_at 17 = .ok (.aaload, 1) := by decide +kernel
theorem d_S_at_18 : decode b_S_at 18 = .ok (.goto 4, 3) := by decide +kernel
theorem d_S_at_21 : decode b_S_at 21 = .ok (.aconst_null, 1) := by decide +kernel
theorem d_S_at_22 : decode b_S_at 22 = .ok (.areturn, 1) := by decide +kernel
theorem d_S_sealedCount_0 : decode b_S_sealedCount 0 = .ok (.aload_n 0, 1) := by decide +kernel
theorem d_S_sealedCount_1 : decode b_S_sealedCount 1 = .ok (.getfield 22, 3) := by decide +kernel
theorem d_S_sealedCount_4 : decode b_S_sealedCount 4 = .ok (.ifnonnull 10, 3) := by decide +kernel
theorem d_S_sealedCount_7 : decode b_S_sealedCount 7 = .ok (.aload_n 0, 1) := by decide +kernel
theorem d_S_sealedCount_8 : decode b_S_sealedCount 8 = .ok (.getfield 18, 3) := by decide +kernel
theorem d_S_sealedCount_11 : decode b_S_sealedCount 11 = .ok (.goto 9, 3) := by decide +kernel
theorem d_S_sealedCount_14 : decode b_S_sealedCount 14 = .ok (.aload_n 0, 1) := by decide +kernel
theorem d_S_sealedCount_15 : decode b_S_sealedCount 15 = .ok (.getfield 18, 3) := by decide +kernel
theorem d_S_sealedCount_18 : decode b_S_sealedCount 18 = .ok (.iconst 1, 1) := by decide +kernel
theorem d_S_sealedCount_19 : decode b_S_sealedCount 19 = .ok (.isub, 1) := by decide +kernel
theorem d_S_sealedCount_20 : decode b_S_sealedCount 20 = .ok (.ireturn, 1) := by decide +kernel
theorem d_S_withRoomFor_0 : decode b_S_withRoomFor 0 = .ok (.aload_n 0, 1) := by decide +kernel
theorem d_S_withRoomFor_1 : decode b_S_withRoomFor 1 = .ok (.getfield 22, 3) := by decide +kernel
theorem d_S_withRoomFor_4 : decode b_S_withRoomFor 4 = .ok (.ifnull 22, 3) := by decide +kernel
theorem d_S_withRoomFor_7 : decode b_S_withRoomFor 7 = .ok (.aload_n 0, 1) := by decide +kernel
theorem d_S_withRoomFor_8 : decode b_S_withRoomFor 8 = .ok (.getfield 22, 3) := by decide +kernel
theorem d_S_withRoomFor_11 : decode b_S_withRoomFor 11 = .ok (.invokevirtual 29, 3) := by decide +kernel
theorem d_S_withRoomFor_14 : decode b_S_withRoomFor 14 = .ok (.iload_n 1, 1) := by decide +kernel
theorem d_S_withRoomFor_15 : decode b_S_withRoomFor 15 = .ok (.invokevirtual 33, 3) := by decide +kernel
theorem d_S_withRoomFor_18 : decode b_S_withRoomFor 18 = .ok (.ifCond .eq 8, 3) := by decide +kernel
theorem d_S_withRoomFor_21 : decode b_S_withRoomFor 21 = .ok (.aload_n 0, 1) := by decide +kernel
theorem d_S_withRoomFor_22 : decode b_S_withRoomFor 22 = .ok (.getfield 22, 3) := by decide +kernel
theorem d_S_withRoomFor_25 : decode b_S_withRoomFor 25 = .ok (.areturn, 1) := by decide +kernel
theorem d_S_withRoomFor_26 : decode b_S_withRoomFor 26 = .ok (.aload_n 0, 1) := by decide +kernel
theorem d_S_withRoomFor_27 : decode b_S_withRoomFor 27 = .ok (.getfield 18, 3) := by decide +kernel
theorem d_S_withRoomFor_30 : decode b_S_withRoomFor 30 = .ok (.aload_n 0, 1) := by decide +kernel
theorem d_S_withRoomFor_31 : decode b_S_withRoomFor 31 = .ok (.getfield 11, 3) := by decide +kernel
theorem d_S_withRoomFor_34 : decode b_S_withRoomFor 34 = .ok (.arraylength, 1) := by decide +kernel
theorem d_S_withRoomFor_35 : decode b_S_withRoomFor 35 = .ok (.if_icmp .ne 5, 3) := by decide +kernel
theorem d_S_withRoomFor_38 : decode b_S_withRoomFor 38 = .ok (.aconst_null, 1) := by decide +kernel
theorem d_S_withRoomFor_39 : decode b_S_withRoomFor 39 = .ok (.areturn, 1) := by decide +kernel
theorem d_S_withRoomFor_40 : decode b_S_withRoomFor 40 = .ok (.aload_n 0, 1) := by decide +kernel
theorem d_S_withRoomFor_41 : decode b_S_withRoomFor 41 = .ok (.invokevirtual 39, 3) := by decide +kernel
theorem d_S_withRoomFor_44 : decode b_S_withRoomFor 44 = .ok (.aload_n 0, 1) := by decide +kernel
theorem d_S_withRoomFor_45 : decode b_S_withRoomFor 45 = .ok (.dup, 1) := by decide +kernel
theorem d_S_withRoomFor_46 : decode b_S_withRoomFor 46 = .ok (.getfield 26, 3) := by decide +kernel
theorem d_S_withRoomFor_49 : decode b_S_withRoomFor 49 = .ok (.iconst 1, 1) := by decide +kernel
theorem d_S_withRoomFor_50 : decode b_S_withRoomFor 50 = .ok (.iadd, 1) := by decide +kernel
theorem d_S_withRoomFor_51 : decode b_S_withRoomFor 51 = .ok (.putfield 26, 3) := by decide +kernel
theorem d_S_withRoomFor_54 : decode b_S_withRoomFor 54 = .ok (.aload_n 0, 1) := by decide +kernel
theorem d_S_withRoomFor_55 : decode b_S_withRoomFor 55 = .ok (.aload_n 0, 1) := by decide +kernel
theorem d_S_withRoomFor_56 : decode b_S_withRoomFor 56 = .ok (.getfield 11, 3) := by decide +kernel
theorem d_S_withRoomFor_59 : decode b_S_withRoomFor 59 = .ok (.aload_n 0, 1) := by decide +kernel
theorem d_S_withRoomFor_60 : decode b_S_withRoomFor 60 = .ok (.getfield 18, 3) := by decide +kernel
theorem d_S_withRoomFor_63 : decode b_S_withRoomFor 63 = .ok (.aaload, 1) := by decide +kernel
theorem d_S_withRoomFor_64 : decode b_S_withRoomFor 64 = .ok (.putfield 22, 3) := by decide +kernel
theorem d_S_withRoomFor_67 : decode b_S_withRoomFor 67 = .ok (.aload_n 0, 1) := by decide +kernel
theorem d_S_withRoomFor_68 : decode b_S_withRoomFor 68 = .ok (.getfield 22, 3) := by decide +kernel
theorem d_S_withRoomFor_71 : decode b_S_withRoomFor 71 = .ok (.aload_n 0, 1) := by decide +kernel
theorem d_S_withRoomFor_72 : decode b_S_withRoomFor 72 = .ok (.getfield 26, 3) := by decide +kernel
theorem d_S_withRoomFor_75 : decode b_S_withRoomFor 75 = .ok (.invokevirtual 42, 3) := by decide +kernel
theorem d_S_withRoomFor_78 : decode b_S_withRoomFor 78 = .ok (.aload_n 0, 1) := by decide +kernel
theorem d_S_withRoomFor_79 : decode b_S_withRoomFor 79 = .ok (.dup, 1) := by decide +kernel
theorem d_S_withRoomFor_80 : decode b_S_withRoomFor 80 = .ok (.getfield 18, 3) := by decide +kernel
theorem d_S_withRoomFor_83 : decode b_S_withRoomFor 83 = .ok (.iconst 1, 1) := by decide +kernel
theorem d_S_withRoomFor_84 : decode b_S_withRoomFor 84 = .ok (.iadd, 1) := by decide +kernel
theorem d_S_withRoomFor_85 : decode b_S_withRoomFor 85 = .ok (.putfield 18, 3) := by decide +kernel
theorem d_S_withRoomFor_88 : decode b_S_withRoomFor 88 = .ok (.aload_n 0, 1) := by decide +kernel
theorem d_S_withRoomFor_89 : decode b_S_withRoomFor 89 = .ok (.getfield 22, 3) := by decide +kernel
theorem d_S_withRoomFor_92 : decode b_S_withRoomFor 92 = .ok (.areturn, 1) := by decide +kernel
theorem d_S_syncActive_0 : decode b_S_syncActive 0 = .ok (.aload_n 0, 1) := by decide +kernel
theorem d_S_syncActive_1 : decode b_S_syncActive 1 = .ok (.getfield 22, 3) := by decide +kernel
theorem d_S_syncActive_4 : decode b_S_syncActive 4 = .ok (.ifnull 10, 3) := by decide +kernel
theorem d_S_syncActive_7 : decode b_S_syncActive 7 = .ok (.aload_n 0, 1) := by decide +kernel
theorem d_S_syncActive_8 : decode b_S_syncActive 8 = .ok (.getfield 22, 3) := by decide +kernel
theorem d_S_syncActive_11 : decode b_S_syncActive 11 = .ok (.invokevirtual 46, 3) := by decide +kernel
theorem d_S_syncActive_14 : decode b_S_syncActive 14 = .ok (.return_, 1) := by decide +kernel
theorem d_S_sealActive_0 : decode b_S_sealActive 0 = .ok (.aload_n 0, 1) := by decide +kernel
theorem d_S_sealActive_1 : decode b_S_sealActive 1 = .ok (.invokevirtual 49, 3) := by decide +kernel
theorem d_S_sealActive_4 : decode b_S_sealActive 4 = .ok (.aload_n 0, 1) := by decide +kernel
theorem d_S_sealActive_5 : decode b_S_sealActive 5 = .ok (.aconst_null, 1) := by decide +kernel
theorem d_S_sealActive_6 : decode b_S_sealActive 6 = .ok (.putfield 22, 3) := by decide +kernel
theorem d_S_sealActive_9 : decode b_S_sealActive 9 = .ok (.return_, 1) := by decide +kernel
theorem d_S_losePower_0 : decode b_S_losePower 0 = .ok (.aload_n 0, 1) := by decide +kernel
theorem d_S_losePower_1 : decode b_S_losePower 1 = .ok (.getfield 22, 3) := by decide +kernel
theorem d_S_losePower_4 : decode b_S_losePower 4 = .ok (.ifnull 11, 3) := by decide +kernel
theorem d_S_losePower_7 : decode b_S_losePower 7 = .ok (.aload_n 0, 1) := by decide +kernel
theorem d_S_losePower_8 : decode b_S_losePower 8 = .ok (.getfield 22, 3) := by decide +kernel
theorem d_S_losePower_11 : decode b_S_losePower 11 = .ok (.iload_n 1, 1) := by decide +kernel
theorem d_S_losePower_12 : decode b_S_losePower 12 = .ok (.invokevirtual 52, 3) := by decide +kernel
theorem d_S_losePower_15 : decode b_S_losePower 15 = .ok (.aload_n 0, 1) := by decide +kernel
theorem d_S_losePower_16 : decode b_S_losePower 16 = .ok (.aconst_null, 1) := by decide +kernel
theorem d_S_losePower_17 : decode b_S_losePower 17 = .ok (.putfield 22, 3) := by decide +kernel
theorem d_S_losePower_20 : decode b_S_losePower 20 = .ok (.return_, 1) := by decide +kernel
theorem d_S_exchange_0 : decode b_S_exchange 0 = .ok (.iload_n 1, 1) := by decide +kernel
theorem d_S_exchange_1 : decode b_S_exchange 1 = .ok (.ifCond .lt 11, 3) := by decide +kernel
theorem d_S_exchange_4 : decode b_S_exchange 4 = .ok (.iload_n 1, 1) := by decide +kernel
theorem d_S_exchange_5 : decode b_S_exchange 5 = .ok (.aload_n 0, 1) := by decide +kernel
theorem d_S_exchange_6 : decode b_S_exchange 6 = .ok (.getfield 18, 3) := by decide +kernel
theorem d_S_exchange_9 : decode b_S_exchange 9 = .ok (.if_icmp .lt 5, 3) := by decide +kernel
theorem d_S_exchange_12 : decode b_S_exchange 12 = .ok (.aload_n 2, 1) := by decide +kernel
theorem d_S_exchange_13 : decode b_S_exchange 13 = .ok (.areturn, 1) := by decide +kernel
theorem d_S_exchange_14 : decode b_S_exchange 14 = .ok (.aload_n 0, 1) := by decide +kernel
theorem d_S_exchange_15 : decode b_S_exchange 15 = .ok (.getfield 11, 3) := by decide +kernel
theorem d_S_exchange_18 : decode b_S_exchange 18 = .ok (.iload_n 1, 1) := by decide +kernel
theorem d_S_exchange_19 : decode b_S_exchange 19 = .ok (.aaload, 1) := by decide +kernel
theorem d_S_exchange_20 : decode b_S_exchange 20 = .ok (.astore_n 3, 1) := by decide +kernel
theorem d_S_exchange_21 : decode b_S_exchange 21 = .ok (.aload_n 0, 1) := by decide +kernel
theorem d_S_exchange_22 : decode b_S_exchange 22 = .ok (.getfield 11, 3) := by decide +kernel
theorem d_S_exchange_25 : decode b_S_exchange 25 = .ok (.iload_n 1, 1) := by decide +kernel
theorem d_S_exchange_26 : decode b_S_exchange 26 = .ok (.aload_n 2, 1) := by decide +kernel
theorem d_S_exchange_27 : decode b_S_exchange 27 = .ok (.aastore, 1) := by decide +kernel
theorem d_S_exchange_28 : decode b_S_exchange 28 = .ok (.aload_n 3, 1) := by decide +kernel
theorem d_S_exchange_29 : decode b_S_exchange 29 = .ok (.areturn, 1) := by decide +kernel
theorem d_S_takeOut_0 : decode b_S_takeOut 0 = .ok (.iload_n 1, 1) := by decide +kernel
theorem d_S_takeOut_1 : decode b_S_takeOut 1 = .ok (.ifCond .lt 11, 3) := by decide +kernel
theorem d_S_takeOut_4 : decode b_S_takeOut 4 = .ok (.iload_n 1, 1) := by decide +kernel
theorem d_S_takeOut_5 : decode b_S_takeOut 5 = .ok (.aload_n 0, 1) := by decide +kernel
theorem d_S_takeOut_6 : decode b_S_takeOut 6 = .ok (.getfield 18, 3) := by decide +kernel
theorem d_S_takeOut_9 : decode b_S_takeOut 9 = .ok (.if_icmp .lt 4, 3) := by decide +kernel
theorem d_S_takeOut_12 : decode b_S_takeOut 12 = .ok (.return_, 1) := by decide +kernel
theorem d_S_takeOut_13 : decode b_S_takeOut 13 = .ok (.aload_n 0, 1) := by decide +kernel
theorem d_S_takeOut_14 : decode b_S_takeOut 14 = .ok (.getfield 11, 3) := by decide +kernel
theorem d_S_takeOut_17 : decode b_S_takeOut 17 = .ok (.iload_n 1, 1) := by decide +kernel
theorem d_S_takeOut_18 : decode b_S_takeOut 18 = .ok (.aaload, 1) := by decide +kernel
theorem d_S_takeOut_19 : decode b_S_takeOut 19 = .ok (.astore_n 2, 1) := by decide +kernel
theorem d_S_takeOut_20 : decode b_S_takeOut 20 = .ok (.iload_n 1, 1) := by decide +kernel
theorem d_S_takeOut_21 : decode b_S_takeOut 21 = .ok (.istore_n 3, 1) := by decide +kernel
theorem d_S_takeOut_22 : decode b_S_takeOut 22 = .ok (.iload_n 3, 1) := by decide +kernel
theorem d_S_takeOut_23 : decode b_S_takeOut 23 = .ok (.aload_n 0, 1) := by decide +kernel
theorem d_S_takeOut_24 : decode b_S_takeOut 24 = .ok (.getfield 11, 3) := by decide +kernel
theorem d_S_takeOut_27 : decode b_S_takeOut 27 = .ok (.arraylength, 1) := by decide +kernel
theorem d_S_takeOut_28 : decode b_S_takeOut 28 = .ok (.iconst 1, 1) := by decide +kernel
theorem d_S_takeOut_29 : decode b_S_takeOut 29 = .ok (.isub, 1) := by decide +kernel
theorem d_S_takeOut_30 : decode b_S_takeOut 30 = .ok (.if_icmp .ge 23, 3) := by decide +kernel
theorem d_S_takeOut_33 : decode b_S_takeOut 33 = .ok (.aload_n 0, 1) := by decide +kernel
theorem d_S_takeOut_34 : decode b_S_takeOut 34 = .ok (.getfield 11, 3) := by decide +kernel
theorem d_S_takeOut_37 : decode b_S_takeOut 37 = .ok (.iload_n 3, 1) := by decide +kernel
theorem d_S_takeOut_38 : decode b_S_takeOut 38 = .ok (.aload_n 0, 1) := by decide +kernel
theorem d_S_takeOut_39 : decode b_S_takeOut 39 = .ok (.getfield 11, 3) := by decide +kernel
theorem d_S_takeOut_42 : decode b_S_takeOut 42 = .ok (.iload_n 3, 1) := by decide +kernel
theorem d_S_takeOut_43 : decode b_S_takeOut 43 = .ok (.iconst 1, 1) := by decide +kernel
theorem d_S_takeOut_44 : decode b_S_takeOut 44 = .ok (.iadd, 1) := by decide +kernel
theorem d_S_takeOut_45 : decode b_S_takeOut 45 = .ok (.aaload, 1) := by decide +kernel
theorem d_S_takeOut_46 : decode b_S_takeOut 46 = .ok (.aastore, 1) := by decide +kernel
theorem d_S_takeOut_47 : decode b_S_takeOut 47 = .ok (.iinc 3 1, 3) := by decide +kernel
theorem d_S_takeOut_50 : decode b_S_takeOut 50 = .ok (.goto (-28), 3) := by decide +kernel
theorem d_S_takeOut_53 : decode b_S_takeOut 53 = .ok (.aload_n 0, 1) := by decide +kernel
theorem d_S_takeOut_54 : decode b_S_takeOut 54 = .ok (.getfield 11, 3) := by decide +kernel
theorem d_S_takeOut_57 : decode b_S_takeOut 57 = .ok (.aload_n 0, 1) := by decide +kernel
theorem d_S_takeOut_58 : decode b_S_takeOut 58 = .ok (.getfield 11, 3) := by decide +kernel
theorem d_S_takeOut_61 : decode b_S_takeOut 61 = .ok (.arraylength, 1) := by decide +kernel
theorem d_S_takeOut_62 : decode b_S_takeOut 62 = .ok (.iconst 1, 1) := by decide +kernel
theorem d_S_takeOut_63 : decode b_S_takeOut 63 = .ok (.isub, 1) := by decide +kernel
theorem d_S_takeOut_64 : decode b_S_takeOut 64 = .ok (.aload_n 2, 1) := by decide +kernel
theorem d_S_takeOut_65 : decode b_S_takeOut 65 = .ok (.aastore, 1) := by decide +kernel
theorem d_S_takeOut_66 : decode b_S_takeOut 66 = .ok (.aload_n 0, 1) := by decide +kernel
theorem d_S_takeOut_67 : decode b_S_takeOut 67 = .ok (.dup, 1) := by decide +kernel
theorem d_S_takeOut_68 : decode b_S_takeOut 68 = .ok (.getfield 18, 3) := by decide +kernel
theorem d_S_takeOut_71 : decode b_S_takeOut 71 = .ok (.iconst 1, 1) := by decide +kernel
theorem d_S_takeOut_72 : decode b_S_takeOut 72 = .ok (.isub, 1) := by decide +kernel
theorem d_S_takeOut_73 : decode b_S_takeOut 73 = .ok (.putfield 18, 3) := by decide +kernel
theorem d_S_takeOut_76 : decode b_S_takeOut 76 = .ok (.return_, 1) := by decide +kernel
theorem d_F_init_0 : decode b_F_init 0 = .ok (.aload_n 0, 1) := by decide +kernel
theorem d_F_init_1 : decode b_F_init 1 = .ok (.invokespecial 1, 3) := by decide +kernel
theorem d_F_init_4 : decode b_F_init 4 = .ok (.aload_n 0, 1) := by decide +kernel
theorem d_F_init_5 : decode b_F_init 5 = .ok (.new 7, 3) := by decide +kernel
theorem d_F_init_8 : decode b_F_init 8 = .ok (.dup, 1) := by decide +kernel
theorem d_F_init_9 : decode b_F_init 9 = .ok (.bipush 100, 2) := by decide +kernel
theorem d_F_init_11 : decode b_F_init 11 = .ok (.invokespecial 11, 3) := by decide +kernel
theorem d_F_init_14 : decode b_F_init 14 = .ok (.putfield 14, 3) := by decide +kernel
theorem d_F_init_17 : decode b_F_init 17 = .ok (.aload_n 0, 1) := by decide +kernel
theorem d_F_init_18 : decode b_F_init 18 = .ok (.new 7, 3) := by decide +kernel
theorem d_F_init_21 : decode b_F_init 21 = .ok (.dup, 1) := by decide +kernel
theorem d_F_init_22 : decode b_F_init 22 = .ok (.bipush 104, 2) := by decide +kernel
theorem d_F_init_24 : decode b_F_init 24 = .ok (.invokespecial 11, 3) := by decide +kernel
theorem d_F_init_27 : decode b_F_init 27 = .ok (.putfield 20, 3) := by decide +kernel
theorem d_F_init_30 : decode b_F_init 30 = .ok (.aload_n 0, 1) := by decide +kernel
theorem d_F_init_31 : decode b_F_init 31 = .ok (.bipush 11, 2) := by decide +kernel
theorem d_F_init_33 : decode b_F_init 33 = .ok (.anewarray 23, 3) := by decide +kernel
theorem d_F_init_36 : decode b_F_init 36 = .ok (.putfield 25, 3) := by decide +kernel
theorem d_F_init_39 : decode b_F_init 39 = .ok (.iconst 0, 1) := by decide +kernel
theorem d_F_init_40 : decode b_F_init 40 = .ok (.istore_n 1, 1) := by decide +kernel
theorem d_F_init_41 : decode b_F_init 41 = .ok (.iload_n 1, 1) := by decide +kernel
theorem d_F_init_42 : decode b_F_init 42 = .ok (.aload_n 0, 1) := by decide +kernel
theorem d_F_init_43 : decode b_F_init 43 = .ok (.getfield 25, 3) := by decide +kernel
theorem d_F_init_46 : decode b_F_init 46 = .ok (.arraylength, 1) := by decide +kernel
theorem d_F_init_47 : decode b_F_init 47 = .ok (.if_icmp .ge 22, 3) := by decide +kernel
theorem d_F_init_50 : decode b_F_init 50 = .ok (.aload_n 0, 1) := by decide +kernel
theorem d_F_init_51 : decode b_F_init 51 = .ok (.getfield 25, 3) := by decide +kernel
theorem d_F_init_54 : decode b_F_init 54 = .ok (.iload_n 1, 1) := by decide +kernel
theorem d_F_init_55 : decode b_F_init 55 = .ok (.new 23, 3) := by decide +kernel
theorem d_F_init_58 : decode b_F_init 58 = .ok (.dup, 1) := by decide +kernel
theorem d_F_init_59 : decode b_F_init 59 = .ok (.invokespecial 29, 3) := by decide +kernel
theorem d_F_init_62 : decode b_F_init 62 = .ok (.aastore, 1) := by decide +kernel
theorem d_F_init_63 : decode b_F_init 63 = .ok (.iinc 1 1, 3) := by decide +kernel
theorem d_F_init_66 : decode b_F_init 66 = .ok (.goto (-25), 3) := by decide +kernel
theorem d_F_init_69 : decode b_F_init 69 = .ok (.return_, 1) := by decide +kernel
theorem d_F_begin_0 : decode b_F_begin 0 = .ok (.aload_n 0, 1) := by decide +kernel
theorem d_F_begin_1 : decode b_F_begin 1 = .ok (.getfield 14, 3) := by decide +kernel
theorem d_F_begin_4 : decode b_F_begin 4 = .ok (.iconst 0, 1) := by decide +kernel
theorem d_F_begin_5 : decode b_F_begin 5 = .ok (.invokevirtual 30, 3) := by decide +kernel
theorem d_F_begin_8 : decode b_F_begin 8 = .ok (.aload_n 0, 1) := by decide +kernel
theorem d_F_begin_9 : decode b_F_begin 9 = .ok (.getfield 20, 3) := by decide +kernel
theorem d_F_begin_12 : decode b_F_begin 12 = .ok (.iconst 0, 1) := by decide +kernel
theorem d_F_begin_13 : decode b_F_begin 13 = .ok (.invokevirtual 30, 3) := by decide +kernel
theorem d_F_begin_16 : decode b_F_begin 16 = .ok (.aload_n 0, 1) := by decide +kernel
theorem d_F_begin_17 : decode b_F_begin 17 = .ok (.iconst 0, 1) := by decide +kernel
theorem d_F_begin_18 : decode b_F_begin 18 = .ok (.putfield 33, 3) := by decide +kernel
theorem d_F_begin_21 : decode b_F_begin 21 = .ok (.aload_n 0, 1) := by decide +kernel
theorem d_F_begin_22 : decode b_F_begin 22 = .ok (.iload_n 1, 1) := by decide +kernel
theorem d_F_begin_23 : decode b_F_begin 23 = .ok (.putfield 37, 3) := by decide +kernel
theorem d_F_begin_26 : decode b_F_begin 26 = .ok (.aload_n 0, 1) := by decide +kernel
theorem d_F_begin_27 : decode b_F_begin 27 = .ok (.iconst 0, 1) := by decide +kernel
theorem d_F_begin_28 : decode b_F_begin 28 = .ok (.putfield 40, 3) := by decide +kernel
theorem d_F_begin_31 : decode b_F_begin 31 = .ok (.return_, 1) := by decide +kernel
theorem d_F_number_0 : decode b_F_number 0 = .ok (.aload_n 0, 1) := by decide +kernel
theorem d_F_number_1 : decode b_F_number 1 = .ok (.getfield 37, 3) := by decide +kernel
theorem d_F_number_4 : decode b_F_number 4 = .ok (.ireturn, 1) := by decide +kernel
theorem d_F_synced_0 : decode b_F_synced 0 = .ok (.aload_n 0, 1) := by decide +kernel
theorem d_F_synced_1 : decode b_F_synced 1 = .ok (.getfield 40, 3) := by decide +kernel
theorem d_F_synced_4 : decode b_F_synced 4 = .ok (.ireturn, 1) := by decide +kernel
theorem d_F_bytes_0 : decode b_F_bytes 0 = .ok (.aload_n 0, 1) := by decide +kernel
theorem d_F_bytes_1 : decode b_F_bytes 1 = .ok (.getfield 14, 3) := by decide +kernel
theorem d_F_bytes_4 : decode b_F_bytes 4 = .ok (.areturn, 1) := by decide +kernel
theorem d_F_hint_0 : decode b_F_hint 0 = .ok (.aload_n 0, 1) := by decide +kernel
theorem d_F_hint_1 : decode b_F_hint 1 = .ok (.getfield 20, 3) := by decide +kernel
theorem d_F_hint_4 : decode b_F_hint 4 = .ok (.areturn, 1) := by decide +kernel
theorem d_F_recordCount_0 : decode b_F_recordCount 0 = .ok (.aload_n 0, 1) := by decide +kernel
theorem d_F_recordCount_1 : decode b_F_recordCount 1 = .ok (.getfield 33, 3) := by decide +kernel
theorem d_F_recordCount_4 : decode b_F_recordCount 4 = .ok (.ireturn, 1) := by decide +kernel
theorem d_F_record_0 : decode b_F_record 0 = .ok (.iload_n 1, 1) := by decide +kernel
theorem d_F_record_1 : decode b_F_record 1 = .ok (.ifCond .lt 20, 3) := by decide +kernel
theorem d_F_record_4 : decode b_F_record 4 = .ok (.iload_n 1, 1) := by decide +kernel
theorem d_F_record_5 : decode b_F_record 5 = .ok (.aload_n 0, 1) := by decide +kernel
theorem d_F_record_6 : decode b_F_record 6 = .ok (.getfield 33, 3) := by decide +kernel
theorem d_F_record_9 : decode b_F_record 9 = .ok (.if_icmp .ge 12, 3) := by decide +kernel
theorem d_F_record_12 : decode b_F_record 12 = .ok (.aload_n 0, 1) := by decide +kernel
theorem d_F_record_13 : decode b_F_record 13 = .ok (.getfield 25, 3) := by decide +kernel
theorem d_F_record_16 : decode b_F_record 16 = .ok (.iload_n 1, 1) := by decide +kernel
theorem d_F_record_17 : decode b_F_record 17 = .ok (.aaload, 1) := by decide +kernel
theorem d_F_record_18 : decode b_F_record 18 = .ok (.goto 4, 3) := by decide +kernel
theorem d_F_record_21 : decode b_F_record 21 = .ok (.aconst_null, 1) := by decide +kernel
theorem d_F_record_22 : decode b_F_record 22 = .ok (.areturn, 1) := by decide +kernel
theorem d_F_syncAll_0 : decode b_F_syncAll 0 = .ok (.aload_n 0, 1) := by decide +kernel
theorem d_F_syncAll_1 : decode b_F_syncAll 1 = .ok (.aload_n 0, 1) := by decide +kernel
theorem d_F_syncAll_2 : decode b_F_syncAll 2 = .ok (.getfield 14, 3) := by decide +kernel
theorem d_F_syncAll_5 : decode b_F_syncAll 5 = .ok (.invokevirtual 43, 3) := by decide +kernel
theorem d_F_syncAll_8 : decode b_F_syncAll 8 = .ok (.putfield 40, 3) := by decide +kernel
theorem d_F_syncAll_11 : decode b_F_syncAll 11 = .ok (.return_, 1) := by decide +kernel
theorem d_F_losePower_0 : decode b_F_losePower 0 = .ok (.aload_n 0, 1) := by decide +kernel
theorem d_F_losePower_1 : decode b_F_losePower 1 = .ok (.getfield 14, 3) := by decide +kernel
theorem d_F_losePower_4 : decode b_F_losePower 4 = .ok (.aload_n 0, 1) := by decide +kernel
theorem d_F_losePower_5 : decode b_F_losePower 5 = .ok (.getfield 40, 3) := by decide +kernel
theorem d_F_losePower_8 : decode b_F_losePower 8 = .ok (.iload_n 1, 1) := by decide +kernel
theorem d_F_losePower_9 : decode b_F_losePower 9 = .ok (.iadd, 1) := by decide +kernel
theorem d_F_losePower_10 : decode b_F_losePower 10 = .ok (.invokevirtual 30, 3) := by decide +kernel
theorem d_F_losePower_13 : decode b_F_losePower 13 = .ok (.aload_n 0, 1) := by decide +kernel
theorem d_F_losePower_14 : decode b_F_losePower 14 = .ok (.invokevirtual 47, 3) := by decide +kernel
theorem d_F_losePower_17 : decode b_F_losePower 17 = .ok (.return_, 1) := by decide +kernel
theorem d_F_liveBytes_0 : decode b_F_liveBytes 0 = .ok (.iconst 0, 1) := by decide +kernel
theorem d_F_liveBytes_1 : decode b_F_liveBytes 1 = .ok (.istore_n 2, 1) := by decide +kernel
theorem d_F_liveBytes_2 : decode b_F_liveBytes 2 = .ok (.iconst 0, 1) := by decide +kernel
theorem d_F_liveBytes_3 : decode b_F_liveBytes 3 = .ok (.istore_n 3, 1) := by decide +kernel
theorem d_F_liveBytes_4 : decode b_F_liveBytes 4 = .ok (.iload_n 3, 1) := by decide +kernel
theorem d_F_liveBytes_5 : decode b_F_liveBytes 5 = .ok (.aload_n 0, 1) := by decide +kernel
theorem d_F_liveBytes_6 : decode b_F_liveBytes 6 = .ok (.getfield 33, 3) := by decide +kernel
theorem d_F_liveBytes_9 : decode b_F_liveBytes 9 = .ok (.if_icmp .ge 34, 3) := by decide +kernel
theorem d_F_liveBytes_12 : decode b_F_liveBytes 12 = .ok (.aload_n 1, 1) := by decide +kernel
theorem d_F_liveBytes_13 : decode b_F_liveBytes 13 = .ok (.aload_n 0, 1) := by decide +kernel
theorem d_F_liveBytes_14 : decode b_F_liveBytes 14 = .ok (.getfield 25, 3) := by decide +kernel
theorem d_F_liveBytes_17 : decode b_F_liveBytes 17 = .ok (.iload_n 3, 1) := by decide +kernel
theorem d_F_liveBytes_18 : decode b_F_liveBytes 18 = .ok (.aaload, 1) := by decide +kernel
theorem d_F_liveBytes_19 : decode b_F_liveBytes 19 = .ok (.invokevirtual 50, 3) := by decide +kernel
theorem d_F_liveBytes_22 : decode b_F_liveBytes 22 = .ok (.ifCond .eq 15, 3) := by decide +kernel
theorem d_F_liveBytes_25 : decode b_F_liveBytes 25 = .ok (.iload_n 2, 1) := by decide +kernel
theorem d_F_liveBytes_26 : decode b_F_liveBytes 26 = .ok (.aload_n 0, 1) := by decide +kernel
theorem d_F_liveBytes_27 : decode b_F_liveBytes 27 = .ok (.getfield 25, 3) := by decide +kernel
theorem d_F_liveBytes_30 : decode b_F_liveBytes 30 = .ok (.iload_n 3, 1) := by decide +kernel
theorem d_F_liveBytes_31 : decode b_F_liveBytes 31 = .ok (.aaload, 1) := by decide +kernel
theorem d_F_liveBytes_32 : decode b_F_liveBytes 32 = .ok (.invokevirtual 56, 3) := by decide +kernel
theorem d_F_liveBytes_35 : decode b_F_liveBytes 35 = .ok (.iadd, 1) := by decide +kernel
theorem d_F_liveBytes_36 : decode b_F_liveBytes 36 = .ok (.istore_n 2, 1) := by decide +kernel
theorem d_F_liveBytes_37 : decode b_F_liveBytes 37 = .ok (.iinc 3 1, 3) := by decide +kernel
theorem d_F_liveBytes_40 : decode b_F_liveBytes 40 = .ok (.goto (-36), 3) := by decide +kernel
theorem d_F_liveBytes_43 : decode b_F_liveBytes 43 = .ok (.iload_n 2, 1) := by decide +kernel
theorem d_F_liveBytes_44 : decode b_F_liveBytes 44 = .ok (.ireturn, 1) := by decide +kernel
theorem d_F_append_0 : decode b_F_append 0 = .ok (.aload_n 0, 1) := by decide +kernel
theorem d_F_append_1 : decode b_F_append 1 = .ok (.getfield 14, 3) := by decide +kernel
theorem d_F_append_4 : decode b_F_append 4 = .ok (.invokevirtual 43, 3) := by decide +kernel
theorem d_F_append_7 : decode b_F_append 7 = .ok (.istore 7, 2) := by decide +kernel
theorem d_F_append_9 : decode b_F_append 9 = .ok (.lload_n 2, 1) := by decide +kernel
theorem d_F_append_10 : decode b_F_append 10 = .ok (.invokestatic 57, 3) := by decide +kernel
theorem d_F_append_13 : decode b_F_append 13 = .ok (.istore 8, 2) := by decide +kernel
theorem d_F_append_15 : decode b_F_append 15 = .ok (.aload_n 0, 1) := by decide +kernel
theorem d_F_append_16 : decode b_F_append 16 = .ok (.getfield 14, 3) := by decide +kernel
theorem d_F_append_19 : decode b_F_append 19 = .ok (.lconst 0, 1) := by decide +kernel
theorem d_F_append_20 : decode b_F_append 20 = .ok (.iconst 4, 1) := by decide +kernel
theorem d_F_append_21 : decode b_F_append 21 = .ok (.invokevirtual 62, 3) := by decide +kernel
theorem d_F_append_24 : decode b_F_append 24 = .ok (.aload_n 0, 1) := by decide +kernel
theorem d_F_append_25 : decode b_F_append 25 = .ok (.getfield 14, 3) := by decide +kernel
theorem d_F_append_28 : decode b_F_append 28 = .ok (.iload_n 1, 1) := by decide +kernel
theorem d_F_append_29 : decode b_F_append 29 = .ok (.i2l, 1) := by decide +kernel
theorem d_F_append_30 : decode b_F_append 30 = .ok (.iconst 2, 1) := by decide +kernel
theorem d_F_append_31 : decode b_F_append 31 = .ok (.invokevirtual 62, 3) := by decide +kernel
theorem d_F_append_34 : decode b_F_append 34 = .ok (.aload_n 0, 1) := by decide +kernel
theorem d_F_append_35 : decode b_F_append 35 = .ok (.getfield 14, 3) := by decide +kernel
theorem d_F_append_38 : decode b_F_append 38 = .ok (.iload 8, 2) := by decide +kernel
theorem d_F_append_40 : decode b_F_append 40 = .ok (.invokevirtual 66, 3) := by decide +kernel
theorem d_F_append_43 : decode b_F_append 43 = .ok (.aload_n 0, 1) := by decide +kernel
theorem d_F_append_44 : decode b_F_append 44 = .ok (.getfield 14, 3) := by decide +kernel
theorem d_F_append_47 : decode b_F_append 47 = .ok (.iload 6, 2) := by decide +kernel
theorem d_F_append_49 : decode b_F_append 49 = .ok (.invokevirtual 66, 3) := by decide +kernel
theorem d_F_append_52 : decode b_F_append 52 = .ok (.aload_n 0, 1) := by decide +kernel
theorem d_F_append_53 : decode b_F_append 53 = .ok (.getfield 14, 3) := by decide +kernel
theorem d_F_append_56 : decode b_F_append 56 = .ok (.lload_n 2, 1) := by decide +kernel
theorem d_F_append_57 : decode b_F_append 57 = .ok (.invokestatic 69, 3) := by decide +kernel
theorem d_F_append_60 : decode b_F_append 60 = .ok (.iload 8, 2) := by decide +kernel
theorem d_F_append_62 : decode b_F_append 62 = .ok (.invokevirtual 62, 3) := by decide +kernel
theorem d_F_append_65 : decode b_F_append 65 = .ok (.aload_n 0, 1) := by decide +kernel
theorem d_F_append_66 : decode b_F_append 66 = .ok (.getfield 14, 3) := by decide +kernel
theorem d_F_append_69 : decode b_F_append 69 = .ok (.lload 4, 2) := by decide +kernel
theorem d_F_append_71 : decode b_F_append 71 = .ok (.iload 6, 2) := by decide +kernel
theorem d_F_append_73 : decode b_F_append 73 = .ok (.invokestatic 72, 3) := by decide +kernel
theorem d_F_append_76 : decode b_F_append 76 = .ok (.invokevirtual 62, 3) := by decide +kernel
theorem d_F_append_79 : decode b_F_append 79 = .ok (.aload_n 0, 1) := by decide +kernel
theorem d_F_append_80 : decode b_F_append 80 = .ok (.getfield 14, 3) := by decide +kernel
theorem d_F_append_83 : decode b_F_append 83 = .ok (.iload 7, 2) := by decide +kernel
theorem d_F_append_85 : decode b_F_append 85 = .ok (.aload_n 0, 1) := by decide +kernel
theorem d_F_append_86 : decode b_F_append 86 = .ok (.getfield 14, 3) := by decide +kernel
theorem d_F_append_89 : decode b_F_append 89 = .ok (.iload 7, 2) := by decide +kernel
theorem d_F_append_91 : decode b_F_append 91 = .ok (.iconst 4, 1) := by decide +kernel
theorem d_F_append_92 : decode b_F_append 92 = .ok (.iadd, 1) := by decide +kernel
theorem d_F_append_93 : decode b_F_append 93 = .ok (.aload_n 0, 1) := by decide +kernel
theorem d_F_append_94 : decode b_F_append 94 = .ok (.getfield 14, 3) := by decide +kernel
theorem d_F_append_97 : decode b_F_append 97 = .ok (.invokevirtual 43, 3) := by decide +kernel
theorem d_F_append_100 : decode b_F_append 100 = .ok (.invokevirtual 76, 3) := by decide +kernel
theorem d_F_append_103 : decode b_F_append 103 = .ok (.invokevirtual 80, 3) := by decide +kernel
theorem d_F_append_106 : decode b_F_append 106 = .ok (.aload_n 0, 1) := by decide +kernel
theorem d_F_append_107 : decode b_F_append 107 = .ok (.iload 7, 2) := by decide +kernel
theorem d_F_append_109 : decode b_F_append 109 = .ok (.lload_n 2, 1) := by decide +kernel
theorem d_F_append_110 : decode b_F_append 110 = .ok (.iload 6, 2) := by decide +kernel
theorem d_F_append_112 : decode b_F_append 112 = .ok (.aconst_null, 1) := by decide +kernel
theorem d_F_append_113 : decode b_F_append 113 = .ok (.invokevirtual 84, 3) := by decide +kernel
theorem d_F_append_116 : decode b_F_append 116 = .ok (.areturn, 1) := by decide +kernel
theorem d_F_appendCopy_0 : decode b_F_appendCopy 0 = .ok (.aload_n 0, 1) := by decide +kernel
theorem d_F_appendCopy_1 : decode b_F_appendCopy 1 = .ok (.getfield 14, 3) := by decide +kernel
theorem d_F_appendCopy_4 : decode b_F_appendCopy 4 = .ok (.invokevirtual 43, 3) := by decide +kernel
theorem d_F_appendCopy_7 : decode b_F_appendCopy 7 = .ok (.istore_n 2, 1) := by decide +kernel
theorem d_F_appendCopy_8 : decode b_F_appendCopy 8 = .ok (.aload_n 1, 1) := by decide +kernel
theorem d_F_appendCopy_9 : decode b_F_appendCopy 9 = .ok (.aload_n 0, 1) := by decide +kernel
theorem d_F_appendCopy_10 : decode b_F_appendCopy 10 = .ok (.getfield 14, 3) := by decide +kernel
theorem d_F_appendCopy_13 : decode b_F_appendCopy 13 = .ok (.invokevirtual 88, 3) := by decide +kernel
theorem d_F_appendCopy_16 : decode b_F_appendCopy 16 = .ok (.aload_n 0, 1) := by decide +kernel
theorem d_F_appendCopy_17 : decode b_F_appendCopy 17 = .ok (.iload_n 2, 1) := by decide +kernel
theorem d_F_appendCopy_18 : decode b_F_appendCopy 18 = .ok (.aload_n 1, 1) := by decide +kernel
theorem d_F_appendCopy_19 : decode b_F_appendCopy 19 = .ok (.getfield 92, 3) := by decide +kernel
theorem d_F_appendCopy_22 : decode b_F_appendCopy 22 = .ok (.aload_n 1, 1) := by decide +kernel
theorem d_F_appendCopy_23 : decode b_F_appendCopy 23 = .ok (.getfield 96, 3) := by decide +kernel
theorem d_F_appendCopy_26 : decode b_F_appendCopy 26 = .ok (.aload_n 1, 1) := by decide +kernel
theorem d_F_appendCopy_27 : decode b_F_appendCopy 27 = .ok (.invokevirtual 84, 3) := by decide +kernel
theorem d_F_appendCopy_30 : decode b_F_appendCopy 30 = .ok (.pop, 1) := by decide +kernel
theorem d_F_appendCopy_31 : decode b_F_appendCopy 31 = .ok (.return_, 1) := by decide +kernel
theorem d_F_hasRightSum_0 : decode b_F_hasRightSum 0 = .ok (.aload_n 0, 1) := by decide +kernel
theorem d_F_hasRightSum_1 : decode b_F_hasRightSum 1 = .ok (.getfield 14, 3) := by decide +kernel
theorem d_F_hasRightSum_4 : decode b_F_hasRightSum 4 = .ok (.iload_n 1, 1) := by decide +kernel
theorem d_F_hasRightSum_5 : decode b_F_hasRightSum 5 = .ok (.iconst 4, 1) := by decide +kernel
theorem d_F_hasRightSum_6 : decode b_F_hasRightSum 6 = .ok (.invokevirtual 99, 3) := by decide +kernel
theorem d_F_hasRightSum_9 : decode b_F_hasRightSum 9 = .ok (.aload_n 0, 1) := by decide +kernel
theorem d_F_hasRightSum_10 : decode b_F_hasRightSum 10 = .ok (.getfield 14, 3) := by decide +kernel
theorem d_F_hasRightSum_13 : decode b_F_hasRightSum 13 = .ok (.iload_n 1, 1) := by decide +kernel
theorem d_F_hasRightSum_14 : decode b_F_hasRightSum 14 = .ok (.iconst 4, 1) := by decide +kernel
theorem d_F_hasRightSum_15 : decode b_F_hasRightSum 15 = .ok (.iadd, 1) := by decide +kernel
theorem d_F_hasRightSum_16 : decode b_F_hasRightSum 16 = .ok (.iload_n 1, 1) := by decide +kernel
theorem d_F_hasRightSum_17 : decode b_F_hasRightSum 17 = .ok (.iload_n 2, 1) := by decide +kernel
theorem d_F_hasRightSum_18 : decode b_F_hasRightSum 18 = .ok (.iadd, 1) := by decide +kernel
theorem d_F_hasRightSum_19 : decode b_F_hasRightSum 19 = .ok (.invokevirtual 76, 3) := by decide +kernel
theorem d_F_hasRightSum_22 : decode b_F_hasRightSum 22 = .ok (.lcmp, 1) := by decide +kernel
theorem d_F_hasRightSum_23 : decode b_F_hasRightSum 23 = .ok (.ifCond .ne 7, 3) := by decide +kernel
theorem d_F_hasRightSum_26 : decode b_F_hasRightSum 26 = .ok (.iconst 1, 1) := by decide +kernel
theorem d_F_hasRightSum_27 : decode b_F_hasRightSum 27 = .ok (.goto 4, 3) := by decide +kernel
theorem d_F_hasRightSum_30 : decode b_F_hasRightSum 30 = .ok (.iconst 0, 1) := by decide +kernel
theorem d_F_hasRightSum_31 : decode b_F_hasRightSum 31 = .ok (.ireturn, 1) := by decide +kernel
theorem d_F_publishAs_0 : decode b_F_publishAs 0 = .ok (.aload_n 0, 1) := by decide +kernel
theorem d_F_publishAs_1 : decode b_F_publishAs 1 = .ok (.iload_n 1, 1) := by decide +kernel
theorem d_F_publishAs_2 : decode b_F_publishAs 2 = .ok (.putfield 37, 3) := by decide +kernel
theorem d_F_publishAs_5 : decode b_F_publishAs 5 = .ok (.aload_n 0, 1) := by decide +kernel
theorem d_F_publishAs_6 : decode b_F_publishAs 6 = .ok (.invokevirtual 47, 3) := by decide +kernel
theorem d_F_publishAs_9 : decode b_F_publishAs 9 = .ok (.iconst 0, 1) := by decide +kernel
theorem d_F_publishAs_10 : decode b_F_publishAs 10 = .ok (.istore_n 2, 1) := by decide +kernel
theorem d_F_publishAs_11 : decode b_F_publishAs 11 = .ok (.iload_n 2, 1) := by decide +kernel
theorem d_F_publishAs_12 : decode b_F_publishAs 12 = .ok (.aload_n 0, 1) := by decide +kernel
theorem d_F_publishAs_13 : decode b_F_publishAs 13 = .ok (.getfield 33, 3) := by decide +kernel
theorem d_F_publishAs_16 : decode b_F_publishAs 16 = .ok (.if_icmp .ge 66, 3) := by decide +kernel
theorem d_F_publishAs_19 : decode b_F_publishAs 19 = .ok (.aload_n 0, 1) := by decide +kernel
theorem d_F_publishAs_20 : decode b_F_publishAs 20 = .ok (.getfield 25, 3) := by decide +kernel
theorem d_F_publishAs_23 : decode b_F_publishAs 23 = .ok (.iload_n 2, 1) := by decide +kernel
theorem d_F_publishAs_24 : decode b_F_publishAs 24 = .ok (.aaload, 1) := by decide +kernel
theorem d_F_publishAs_25 : decode b_F_publishAs 25 = .ok (.getfield 101, 3) := by decide +kernel
theorem d_F_publishAs_28 : decode b_F_publishAs 28 = .ok (.istore_n 3, 1) := by decide +kernel
theorem d_F_publishAs_29 : decode b_F_publishAs 29 = .ok (.aload_n 0, 1) := by decide +kernel
theorem d_F_publishAs_30 : decode b_F_publishAs 30 = .ok (.getfield 20, 3) := by decide +kernel
theorem d_F_publishAs_33 : decode b_F_publishAs 33 = .ok (.aload_n 0, 1) := by decide +kernel
theorem d_F_publishAs_34 : decode b_F_publishAs 34 = .ok (.getfield 14, 3) := by decide +kernel
theorem d_F_publishAs_37 : decode b_F_publishAs 37 = .ok (.iload_n 3, 1) := by decide +kernel
theorem d_F_publishAs_38 : decode b_F_publishAs 38 = .ok (.iconst 4, 1) := by decide +kernel
theorem d_F_publishAs_39 : decode b_F_publishAs 39 = .ok (.iadd, 1) := by decide +kernel
theorem d_F_publishAs_40 : decode b_F_publishAs 40 = .ok (.iconst 4, 1) := by decide +kernel
theorem d_F_publishAs_41 : decode b_F_publishAs 41 = .ok (.invokevirtual 104, 3) := by decide +kernel
theorem d_F_publishAs_44 : decode b_F_publishAs 44 = .ok (.aload_n 0, 1) := by decide +kernel
theorem d_F_publishAs_45 : decode b_F_publishAs 45 = .ok (.getfield 20, 3) := by decide +kernel
theorem d_F_publishAs_48 : decode b_F_publishAs 48 = .ok (.iload_n 3, 1) := by decide +kernel
theorem d_F_publishAs_49 : decode b_F_publishAs 49 = .ok (.invokevirtual 66, 3) := by decide +kernel
theorem d_F_publishAs_52 : decode b_F_publishAs 52 = .ok (.aload_n 0, 1) := by decide +kernel
theorem d_F_publishAs_53 : decode b_F_publishAs 53 = .ok (.getfield 20, 3) := by decide +kernel
theorem d_F_publishAs_56 : decode b_F_publishAs 56 = .ok (.aload_n 0, 1) := by decide +kernel
theorem d_F_publishAs_57 : decode b_F_publishAs 57 = .ok (.getfield 14, 3) := by decide +kernel
theorem d_F_publishAs_60 : decode b_F_publishAs 60 = .ok (.iload_n 3, 1) := by decide +kernel
theorem d_F_publishAs_61 : decode b_F_publishAs 61 = .ok (.bipush 8, 2) := by decide +kernel
theorem d_F_publishAs_63 : decode b_F_publishAs 63 = .ok (.iadd, 1) := by decide +kernel
theorem d_F_publishAs_64 : decode b_F_publishAs 64 = .ok (.aload_n 0, 1) := by decide +kernel
theorem d_F_publishAs_65 : decode b_F_publishAs 65 = .ok (.getfield 25, 3) := by decide +kernel
theorem d_F_publishAs_68 : decode b_F_publishAs 68 = .ok (.iload_n 2, 1) := by decide +kernel
theorem d_F_publishAs_69 : decode b_F_publishAs 69 = .ok (.aaload, 1) := by decide +kernel
theorem d_F_publishAs_70 : decode b_F_publishAs 70 = .ok (.invokevirtual 108, 3) := by decide +kernel
theorem d_F_publishAs_73 : decode b_F_publishAs 73 = .ok (.invokevirtual 104, 3) := by decide +kernel
theorem d_F_publishAs_76 : decode b_F_publishAs 76 = .ok (.iinc 2 1, 3) := by decide +kernel
theorem d_F_publishAs_79 : decode b_F_publishAs 79 = .ok (.goto (-68), 3) := by decide +kernel
theorem d_F_publishAs_82 : decode b_F_publishAs 82 = .ok (.aload_n 0, 1) := by decide +kernel
theorem d_F_publishAs_83 : decode b_F_publishAs 83 = .ok (.getfield 20, 3) := by decide +kernel
theorem d_F_publishAs_86 : decode b_F_publishAs 86 = .ok (.aload_n 0, 1) := by decide +kernel
theorem d_F_publishAs_87 : decode b_F_publishAs 87 = .ok (.getfield 20, 3) := by decide +kernel
theorem d_F_publishAs_90 : decode b_F_publishAs 90 = .ok (.iconst 0, 1) := by decide +kernel
theorem d_F_publishAs_91 : decode b_F_publishAs 91 = .ok (.aload_n 0, 1) := by decide +kernel
theorem d_F_publishAs_92 : decode b_F_publishAs 92 = .ok (.getfield 20, 3) := by decide +kernel
theorem d_F_publishAs_95 : decode b_F_publishAs 95 = .ok (.invokevirtual 43, 3) := by decide +kernel
theorem d_F_publishAs_98 : decode b_F_publishAs 98 = .ok (.invokevirtual 76, 3) := by decide +kernel
theorem d_F_publishAs_101 : decode b_F_publishAs 101 = .ok (.iconst 4, 1) := by decide +kernel
theorem d_F_publishAs_102 : decode b_F_publishAs 102 = .ok (.invokevirtual 62, 3) := by decide +kernel
theorem d_F_publishAs_105 : decode b_F_publishAs 105 = .ok (.return_, 1) := by decide +kernel
theorem d_F_learn_0 : decode b_F_learn 0 = .ok (.iload_n 1, 1) := by decide +kernel
theorem d_F_learn_1 : decode b_F_learn 1 = .ok (.ifCond .eq 10, 3) := by decide +kernel
theorem d_F_learn_4 : decode b_F_learn 4 = .ok (.aload_n 0, 1) := by decide +kernel
theorem d_F_learn_5 : decode b_F_learn 5 = .ok (.invokevirtual 111, 3) := by decide +kernel
theorem d_F_learn_8 : decode b_F_learn 8 = .ok (.ifCond .ne 7, 3) := by decide +kernel
theorem d_F_learn_11 : decode b_F_learn 11 = .ok (.aload_n 0, 1) := by decide +kernel
theorem d_F_learn_12 : decode b_F_learn 12 = .ok (.invokevirtual 115, 3) := by decide +kernel
theorem d_F_learn_15 : decode b_F_learn 15 = .ok (.aload_n 0, 1) := by decide +kernel
theorem d_F_learn_16 : decode b_F_learn 16 = .ok (.invokevirtual 47, 3) := by decide +kernel
theorem d_F_learn_19 : decode b_F_learn 19 = .ok (.return_, 1) := by decide +kernel
theorem d_F_learnFromHint_0 : decode b_F_learnFromHint 0 = .ok (.aload_n 0, 1) := by decide +kernel
theorem d_F_learnFromHint_1 : decode b_F_learnFromHint 1 = .ok (.getfield 20, 3) := by decide +kernel
theorem d_F_learnFromHint_4 : decode b_F_learnFromHint 4 = .ok (.invokevirtual 43, 3) := by decide +kernel
theorem d_F_learnFromHint_7 : decode b_F_learnFromHint 7 = .ok (.iconst 4, 1) := by decide +kernel
theorem d_F_learnFromHint_8 : decode b_F_learnFromHint 8 = .ok (.isub, 1) := by decide +kernel
theorem d_F_learnFromHint_9 : decode b_F_learnFromHint 9 = .ok (.istore_n 1, 1) := by decide +kernel
theorem d_F_learnFromHint_10 : decode b_F_learnFromHint 10 = .ok (.iload_n 1, 1) := by decide +kernel
theorem d_F_learnFromHint_11 : decode b_F_learnFromHint 11 = .ok (.ifCond .lt 25, 3) := by decide +kernel
theorem d_F_learnFromHint_14 : decode b_F_learnFromHint 14 = .ok (.aload_n 0, 1) := by decide +kernel
theorem d_F_learnFromHint_15 : decode b_F_learnFromHint 15 = .ok (.getfield 20, 3) := by decide +kernel
theorem d_F_learnFromHint_18 : decode b_F_learnFromHint 18 = .ok (.iload_n 1, 1) := by decide +kernel
theorem d_F_learnFromHint_19 : decode b_F_learnFromHint 19 = .ok (.iconst 4, 1) := by decide +kernel
theorem d_F_learnFromHint_20 : decode b_F_learnFromHint 20 = .ok (.invokevirtual 99, 3) := by decide +kernel
theorem d_F_learnFromHint_23 : decode b_F_learnFromHint 23 = .ok (.aload_n 0, 1) := by decide +kernel
theorem d_F_learnFromHint_24 : decode b_F_learnFromHint 24 = .ok (.getfield 20, 3) := by decide +kernel
theorem d_F_learnFromHint_27 : decode b_F_learnFromHint 27 = .ok (.iconst 0, 1) := by decide +kernel
theorem d_F_learnFromHint_28 : decode b_F_learnFromHint 28 = .ok (.iload_n 1, 1) := by decide +kernel
theorem d_F_learnFromHint_29 : decode b_F_learnFromHint 29 = .ok (.invokevirtual 76, 3) := by decide +kernel
theorem d_F_learnFromHint_32 : decode b_F_learnFromHint 32 = .ok (.lcmp, 1) := by decide +kernel
theorem d_F_learnFromHint_33 : decode b_F_learnFromHint 33 = .ok (.ifCond .eq 5, 3) := by decide +kernel
theorem d_F_learnFromHint_36 : decode b_F_learnFromHint 36 = .ok (.iconst 0, 1) := by decide +kernel
theorem d_F_learnFromHint_37 : decode b_F_learnFromHint 37 = .ok (.ireturn, 1) := by decide +kernel
theorem d_F_learnFromHint_38 : decode b_F_learnFromHint 38 = .ok (.aload_n 0, 1) := by decide +kernel
theorem d_F_learnFromHint_39 : decode b_F_learnFromHint 39 = .ok (.iconst 0, 1) := by decide +kernel
theorem d_F_learnFromHint_40 : decode b_F_learnFromHint 40 = .ok (.putfield 33, 3) := by decide +kernel
theorem d_F_learnFromHint_43 : decode b_F_learnFromHint 43 = .ok (.iconst 0, 1) := by decide +kernel
theorem d_F_learnFromHint_44 : decode b_F_learnFromHint 44 = .ok (.istore_n 2, 1) := by decide +kernel
theorem d_F_learnFromHint_45 : decode b_F_learnFromHint 45 = .ok (.iconst 0, 1) := by decide +kernel
theorem d_F_learnFromHint_46 : decode b_F_learnFromHint 46 = .ok (.istore_n 3, 1) := by decide +kernel
theorem d_F_learnFromHint_47 : decode b_F_learnFromHint 47 = .ok (.iconst 0, 1) := by decide +kernel
theorem d_F_learnFromHint_48 : decode b_F_learnFromHint 48 = .ok (.istore 4, 2) := by decide +kernel
theorem d_F_learnFromHint_50 : decode b_F_learnFromHint 50 = .ok (.iload 4, 2) := by decide +kernel
theorem d_F_learnFromHint_52 : decode b_F_learnFromHint 52 = .ok (.bipush 11, 2) := by decide +kernel
theorem d_F_learnFromHint_54 : decode b_F_learnFromHint 54 = .ok (.if_icmp .ge 117, 3) := by decide +kernel
theorem d_F_learnFromHint_57 : decode b_F_learnFromHint 57 = .ok (.iload_n 3, 1) := by decide +kernel
theorem d_F_learnFromHint_58 : decode b_F_learnFromHint 58 = .ok (.iload_n 1, 1) := by decide +kernel
theorem d_F_learnFromHint_59 : decode b_F_learnFromHint 59 = .ok (.if_icmp .ge 112, 3) := by decide +kernel
theorem d_F_learnFromHint_62 : decode b_F_learnFromHint 62 = .ok (.aload_n 0, 1) := by decide +kernel
theorem d_F_learnFromHint_63 : decode b_F_learnFromHint 63 = .ok (.getfield 20, 3) := by decide +kernel
theorem d_F_learnFromHint_66 : decode b_F_learnFromHint 66 = .ok (.iload_n 3, 1) := by decide +kernel
theorem d_F_learnFromHint_67 : decode b_F_learnFromHint 67 = .ok (.iconst 2, 1) := by decide +kernel
theorem d_F_learnFromHint_68 : decode b_F_learnFromHint 68 = .ok (.iadd, 1) := by decide +kernel
theorem d_F_learnFromHint_69 : decode b_F_learnFromHint 69 = .ok (.invokevirtual 118, 3) := by decide +kernel
theorem d_F_learnFromHint_72 : decode b_F_learnFromHint 72 = .ok (.istore 5, 2) := by decide +kernel
theorem d_F_learnFromHint_74 : decode b_F_learnFromHint 74 = .ok (.aload_n 0, 1) := by decide +kernel
theorem d_F_learnFromHint_75 : decode b_F_learnFromHint 75 = .ok (.getfield 20, 3) := by decide +kernel
theorem d_F_learnFromHint_78 : decode b_F_learnFromHint 78 = .ok (.iload_n 3, 1) := by decide +kernel
theorem d_F_learnFromHint_79 : decode b_F_learnFromHint 79 = .ok (.iconst 3, 1) := by decide +kernel
theorem d_F_learnFromHint_80 : decode b_F_learnFromHint 80 = .ok (.iadd, 1) := by decide +kernel
theorem d_F_learnFromHint_81 : decode b_F_learnFromHint 81 = .ok (.invokevirtual 118, 3) := by decide +kernel
theorem d_F_learnFromHint_84 : decode b_F_learnFromHint 84 = .ok (.istore 6, 2) := by decide +kernel
theorem d_F_learnFromHint_86 : decode b_F_learnFromHint 86 = .ok (.iload 5, 2) := by decide +kernel
theorem d_F_learnFromHint_88 : decode b_F_learnFromHint 88 = .ok (.invokestatic 121, 3) := by decide +kernel
theorem d_F_learnFromHint_91 : decode b_F_learnFromHint 91 = .ok (.ifCond .eq 25, 3) := by decide +kernel
theorem d_F_learnFromHint_94 : decode b_F_learnFromHint 94 = .ok (.iload 6, 2) := by decide +kernel
theorem d_F_learnFromHint_96 : decode b_F_learnFromHint 96 = .ok (.invokestatic 125, 3) := by decide +kernel
theorem d_F_learnFromHint_99 : decode b_F_learnFromHint 99 = .ok (.ifCond .eq 17, 3) := by decide +kernel
theorem d_F_learnFromHint_102 : decode b_F_learnFromHint 102 = .ok (.aload_n 0, 1) := by decide +kernel
theorem d_F_learnFromHint_103 : decode b_F_learnFromHint 103 = .ok (.getfield 20, 3) := by decide +kernel
theorem d_F_learnFromHint_106 : decode b_F_learnFromHint 106 = .ok (.iload_n 3, 1) := by decide +kernel
theorem d_F_learnFromHint_107 : decode b_F_learnFromHint 107 = .ok (.iconst 4, 1) := by decide +kernel
theorem d_F_learnFromHint_108 : decode b_F_learnFromHint 108 = .ok (.iadd, 1) := by decide +kernel
theorem d_F_learnFromHint_109 : decode b_F_learnFromHint 109 = .ok (.invokevirtual 118, 3) := by decide +kernel
theorem d_F_learnFromHint_112 : decode b_F_learnFromHint 112 = .ok (.iload_n 2, 1) := by decide +kernel
theorem d_F_learnFromHint_113 : decode b_F_learnFromHint 113 = .ok (.if_icmp .eq 5, 3) := by decide +kernel
theorem d_F_learnFromHint_116 : decode b_F_learnFromHint 116 = .ok (.iconst 0, 1) := by decide +kernel
theorem d_F_learnFromHint_117 : decode b_F_learnFromHint 117 = .ok (.ireturn, 1) := by decide +kernel
theorem d_F_learnFromHint_118 : decode b_F_learnFromHint 118 = .ok (.aload_n 0, 1) := by decide +kernel
theorem d_F_learnFromHint_119 : decode b_F_learnFromHint 119 = .ok (.getfield 20, 3) := by decide +kernel
theorem d_F_learnFromHint_122 : decode b_F_learnFromHint 122 = .ok (.iload_n 3, 1) := by decide +kernel
theorem d_F_learnFromHint_123 : decode b_F_learnFromHint 123 = .ok (.iconst 5, 1) := by decide +kernel
theorem d_F_learnFromHint_124 : decode b_F_learnFromHint 124 = .ok (.iadd, 1) := by decide +kernel
theorem d_F_learnFromHint_125 : decode b_F_learnFromHint 125 = .ok (.iload 5, 2) := by decide +kernel
theorem d_F_learnFromHint_127 : decode b_F_learnFromHint 127 = .ok (.invokevirtual 99, 3) := by decide +kernel
theorem d_F_learnFromHint_130 : decode b_F_learnFromHint 130 = .ok (.iload 5, 2) := by decide +kernel
theorem d_F_learnFromHint_132 : decode b_F_learnFromHint 132 = .ok (.invokestatic 128, 3) := by decide +kernel
theorem d_F_learnFromHint_135 : decode b_F_learnFromHint 135 = .ok (.lstore 7, 2) := by decide +kernel
theorem d_F_learnFromHint_137 : decode b_F_learnFromHint 137 = .ok (.aload_n 0, 1) := by decide +kernel
theorem d_F_learnFromHint_138 : decode b_F_learnFromHint 138 = .ok (.iload_n 2, 1) := by decide +kernel
theorem d_F_learnFromHint_139 : decode b_F_learnFromHint 139 = .ok (.lload 7, 2) := by decide +kernel
theorem d_F_learnFromHint_141 : decode b_F_learnFromHint 141 = .ok (.iload 6, 2) := by decide +kernel
theorem d_F_learnFromHint_143 : decode b_F_learnFromHint 143 = .ok (.aconst_null, 1) := by decide +kernel
theorem d_F_learnFromHint_144 : decode b_F_learnFromHint 144 = .ok (.invokevirtual 84, 3) := by decide +kernel
theorem d_F_learnFromHint_147 : decode b_F_learnFromHint 147 = .ok (.pop, 1) := by decide +kernel
theorem d_F_learnFromHint_148 : decode b_F_learnFromHint 148 = .ok (.iload_n 2, 1) := by decide +kernel
theorem d_F_learnFromHint_149 : decode b_F_learnFromHint 149 = .ok (.iload 5, 2) := by decide +kernel
theorem d_F_learnFromHint_151 : decode b_F_learnFromHint 151 = .ok (.iload 6, 2) := by decide +kernel
theorem d_F_learnFromHint_153 : decode b_F_learnFromHint 153 = .ok (.invokestatic 131, 3) := by decide +kernel
theorem d_F_learnFromHint_156 : decode b_F_learnFromHint 156 = .ok (.iadd, 1) := by decide +kernel
theorem d_F_learnFromHint_157 : decode b_F_learnFromHint 157 = .ok (.istore_n 2, 1) := by decide +kernel
theorem d_F_learnFromHint_158 : decode b_F_learnFromHint 158 = .ok (.iload_n 3, 1) := by decide +kernel
theorem d_F_learnFromHint_159 : decode b_F_learnFromHint 159 = .ok (.iconst 5, 1) := by decide +kernel
theorem d_F_learnFromHint_160 : decode b_F_learnFromHint 160 = .ok (.iload 5, 2) := by decide +kernel
theorem d_F_learnFromHint_162 : decode b_F_learnFromHint 162 = .ok (.iadd, 1) := by decide +kernel
theorem d_F_learnFromHint_163 : decode b_F_learnFromHint 163 = .ok (.iadd, 1) := by decide +kernel
theorem d_F_learnFromHint_164 : decode b_F_learnFromHint 164 = .ok (.istore_n 3, 1) := by decide +kernel
theorem d_F_learnFromHint_165 : decode b_F_learnFromHint 165 = .ok (.iinc 4 1, 3) := by decide +kernel
theorem d_F_learnFromHint_168 : decode b_F_learnFromHint 168 = .ok (.goto (-118), 3) := by decide +kernel
theorem d_F_learnFromHint_171 : decode b_F_learnFromHint 171 = .ok (.iload_n 3, 1) := by decide +kernel
theorem d_F_learnFromHint_172 : decode b_F_learnFromHint 172 = .ok (.iload_n 1, 1) := by decide +kernel
theorem d_F_learnFromHint_173 : decode b_F_learnFromHint 173 = .ok (.if_icmp .ne 18, 3) := by decide +kernel
theorem d_F_learnFromHint_176 : decode b_F_learnFromHint 176 = .ok (.iload_n 2, 1) := by decide +kernel
theorem d_F_learnFromHint_177 : decode b_F_learnFromHint 177 = .ok (.aload_n 0, 1) := by decide +kernel
theorem d_F_learnFromHint_178 : decode b_F_learnFromHint 178 = .ok (.getfield 14, 3) := by decide +kernel
theorem d_F_learnFromHint_181 : decode b_F_learnFromHint 181 = .ok (.invokevirtual 43, 3) := by decide +kernel
theorem d_F_learnFromHint_184 : decode b_F_learnFromHint 184 = .ok (.if_icmp .ne 7, 3) := by decide +kernel
theorem d_F_learnFromHint_187 : decode b_F_learnFromHint 187 = .ok (.iconst 1, 1) := by decide +kernel
theorem d_F_learnFromHint_188 : decode b_F_learnFromHint 188 = .ok (.goto 4, 3) := by decide +kernel
theorem d_F_learnFromHint_191 : decode b_F_learnFromHint 191 = .ok (.iconst 0, 1) := by decide +kernel
theorem d_F_learnFromHint_192 : decode b_F_learnFromHint 192 = .ok (.ireturn, 1) := by decide +kernel
theorem d_F_learnFromBytes_0 : decode b_F_learnFromBytes 0 = .ok (.aload_n 0, 1) := by decide +kernel
theorem d_F_learnFromBytes_1 : decode b_F_learnFromBytes 1 = .ok (.iconst 0, 1) := by decide +kernel
theorem d_F_learnFromBytes_2 : decode b_F_learnFromBytes 2 = .ok (.putfield 33, 3) := by decide +kernel
theorem d_F_learnFromBytes_5 : decode b_F_learnFromBytes 5 = .ok (.iconst 0, 1) := by decide +kernel
theorem d_F_learnFromBytes_6 : decode b_F_learnFromBytes 6 = .ok (.istore_n 1, 1) := by decide +kernel
theorem d_F_learnFromBytes_7 : decode b_F_learnFromBytes 7 = .ok (.iconst 0, 1) := by decide +kernel
theorem d_F_learnFromBytes_8 : decode b_F_learnFromBytes 8 = .ok (.istore_n 2, 1) := by decide +kernel
theorem d_F_learnFromBytes_9 : decode b_F_learnFromBytes 9 = .ok (.iload_n 2, 1) := by decide +kernel
theorem d_F_learnFromBytes_10 : decode b_F_learnFromBytes 10 = .ok (.bipush 11, 2) := by decide +kernel
theorem d_F_learnFromBytes_12 : decode b_F_learnFromBytes 12 = .ok (.if_icmp .ge 79, 3) := by decide +kernel
theorem d_F_learnFromBytes_15 : decode b_F_learnFromBytes 15 = .ok (.aload_n 0, 1) := by decide +kernel
theorem d_F_learnFromBytes_16 : decode b_F_learnFromBytes 16 = .ok (.iload_n 1, 1) := by decide +kernel
theorem d_F_learnFromBytes_17 : decode b_F_learnFromBytes 17 = .ok (.invokevirtual 135, 3) := by decide +kernel
theorem d_F_learnFromBytes_20 : decode b_F_learnFromBytes 20 = .ok (.istore_n 3, 1) := by decide +kernel
theorem d_F_learnFromBytes_21 : decode b_F_learnFromBytes 21 = .ok (.iload_n 3, 1) := by decide +kernel
theorem d_F_learnFromBytes_22 : decode b_F_learnFromBytes 22 = .ok (.ifCond .ne 6, 3) := by decide +kernel
theorem d_F_learnFromBytes_25 : decode b_F_learnFromBytes 25 = .ok (.goto 66, 3) := by decide +kernel
theorem d_F_learnFromBytes_28 : decode b_F_learnFromBytes 28 = .ok (.aload_n 0, 1) := by decide +kernel
theorem d_F_learnFromBytes_29 : decode b_F_learnFromBytes 29 = .ok (.getfield 14, 3) := by decide +kernel
theorem d_F_learnFromBytes_32 : decode b_F_learnFromBytes 32 = .ok (.iload_n 1, 1) := by decide +kernel
theorem d_F_learnFromBytes_33 : decode b_F_learnFromBytes 33 = .ok (.bipush 6, 2) := by decide +kernel
theorem d_F_learnFromBytes_35 : decode b_F_learnFromBytes 35 = .ok (.iadd, 1) := by decide +kernel
theorem d_F_learnFromBytes_36 : decode b_F_learnFromBytes 36 = .ok (.invokevirtual 118, 3) := by decide +kernel
theorem d_F_learnFromBytes_39 : decode b_F_learnFromBytes 39 = .ok (.istore 4, 2) := by decide +kernel
theorem d_F_learnFromBytes_41 : decode b_F_learnFromBytes 41 = .ok (.aload_n 0, 1) := by decide +kernel
theorem d_F_learnFromBytes_42 : decode b_F_learnFromBytes 42 = .ok (.getfield 14, 3) := by decide +kernel
theorem d_F_learnFromBytes_45 : decode b_F_learnFromBytes 45 = .ok (.iload_n 1, 1) := by decide +kernel
theorem d_F_learnFromBytes_46 : decode b_F_learnFromBytes 46 = .ok (.bipush 8, 2) := by decide +kernel
theorem d_F_learnFromBytes_48 : decode b_F_learnFromBytes 48 = .ok (.iadd, 1) := by decide +kernel
theorem d_F_learnFromBytes_49 : decode b_F_learnFromBytes 49 = .ok (.iload 4, 2) := by decide +kernel
theorem d_F_learnFromBytes_51 : decode b_F_learnFromBytes 51 = .ok (.invokevirtual 99, 3) := by decide +kernel
theorem d_F_learnFromBytes_54 : decode b_F_learnFromBytes 54 = .ok (.iload 4, 2) := by decide +kernel
theorem d_F_learnFromBytes_56 : decode b_F_learnFromBytes 56 = .ok (.invokestatic 128, 3) := by decide +kernel
theorem d_F_learnFromBytes_59 : decode b_F_learnFromBytes 59 = .ok (.lstore 5, 2) := by decide +kernel
theorem d_F_learnFromBytes_61 : decode b_F_learnFromBytes 61 = .ok (.aload_n 0, 1) := by decide +kernel
theorem d_F_learnFromBytes_62 : decode b_F_learnFromBytes 62 = .ok (.iload_n 1, 1) := by decide +kernel
theorem d_F_learnFromBytes_63 : decode b_F_learnFromBytes 63 = .ok (.lload 5, 2) := by decide +kernel
theorem d_F_learnFromBytes_65 : decode b_F_learnFromBytes 65 = .ok (.aload_n 0, 1) := by decide +kernel
theorem d_F_learnFromBytes_66 : decode b_F_learnFromBytes 66 = .ok (.getfield 14, 3) := by decide +kernel
theorem d_F_learnFromBytes_69 : decode b_F_learnFromBytes 69 = .ok (.iload_n 1, 1) := by decide +kernel
theorem d_F_learnFromBytes_70 : decode b_F_learnFromBytes 70 = .ok (.bipush 7, 2) := by decide +kernel
theorem d_F_learnFromBytes_72 : decode b_F_learnFromBytes 72 = .ok (.iadd, 1) := by decide +kernel
theorem d_F_learnFromBytes_73 : decode b_F_learnFromBytes 73 = .ok (.invokevirtual 118, 3) := by decide +kernel
theorem d_F_learnFromBytes_76 : decode b_F_learnFromBytes 76 = .ok (.aconst_null, 1) := by decide +kernel
theorem d_F_learnFromBytes_77 : decode b_F_learnFromBytes 77 = .ok (.invokevirtual 84, 3) := by decide +kernel
theorem d_F_learnFromBytes_80 : decode b_F_learnFromBytes 80 = .ok (.pop, 1) := by decide +kernel
theorem d_F_learnFromBytes_81 : decode b_F_learnFromBytes 81 = .ok (.iload_n 1, 1) := by decide +kernel
theorem d_F_learnFromBytes_82 : decode b_F_learnFromBytes 82 = .ok (.iload_n 3, 1) := by decide +kernel
theorem d_F_learnFromBytes_83 : decode b_F_learnFromBytes 83 = .ok (.iadd, 1) := by decide +kernel
theorem d_F_learnFromBytes_84 : decode b_F_learnFromBytes 84 = .ok (.istore_n 1, 1) := by decide +kernel
theorem d_F_learnFromBytes_85 : decode b_F_learnFromBytes 85 = .ok (.iinc 2 1, 3) := by decide +kernel
theorem d_F_learnFromBytes_88 : decode b_F_learnFromBytes 88 = .ok (.goto (-79), 3) := by decide +kernel
theorem d_F_learnFromBytes_91 : decode b_F_learnFromBytes 91 = .ok (.aload_n 0, 1) := by decide +kernel
theorem d_F_learnFromBytes_92 : decode b_F_learnFromBytes 92 = .ok (.getfield 14, 3) := by decide +kernel
theorem d_F_learnFromBytes_95 : decode b_F_learnFromBytes 95 = .ok (.iload_n 1, 1) := by decide +kernel
theorem d_F_learnFromBytes_96 : decode b_F_learnFromBytes 96 = .ok (.invokevirtual 30, 3) := by decide +kernel
theorem d_F_learnFromBytes_99 : decode b_F_learnFromBytes 99 = .ok (.return_, 1) := by decide +kernel
theorem d_F_soundSize_0 : decode b_F_soundSize 0 = .ok (.iload_n 1, 1) := by decide +kernel
theorem d_F_soundSize_1 : decode b_F_soundSize 1 = .ok (.bipush 8, 2) := by decide +kernel
theorem d_F_soundSize_3 : decode b_F_soundSize 3 = .ok (.iadd, 1) := by decide +kernel
theorem d_F_soundSize_4 : decode b_F_soundSize 4 = .ok (.aload_n 0, 1) := by decide +kernel
theorem d_F_soundSize_5 : decode b_F_soundSize 5 = .ok (.getfield 14, 3) := by decide +kernel
theorem d_F_soundSize_8 : decode b_F_soundSize 8 = .ok (.invokevirtual 43, 3) := by decide +kernel
theorem d_F_soundSize_11 : decode b_F_soundSize 11 = .ok (.if_icmp .le 5, 3) := by decide +kernel
theorem d_F_soundSize_14 : decode b_F_soundSize 14 = .ok (.iconst 0, 1) := by decide +kernel
theorem d_F_soundSize_15 : decode b_F_soundSize 15 = .ok (.ireturn, 1) := by decide +kernel
theorem d_F_soundSize_16 : decode b_F_soundSize 16 = .ok (.aload_n 0, 1) := by decide +kernel
theorem d_F_soundSize_17 : decode b_F_soundSize 17 = .ok (.getfield 14, 3) := by decide +kernel
theorem d_F_soundSize_20 : decode b_F_soundSize 20 = .ok (.iload_n 1, 1) := by decide +kernel
theorem d_F_soundSize_21 : decode b_F_soundSize 21 = .ok (.bipush 6, 2) := by decide +kernel
theorem d_F_soundSize_23 : decode b_F_soundSize 23 = .ok (.iadd, 1) := by decide +kernel
theorem d_F_soundSize_24 : decode b_F_soundSize 24 = .ok (.invokevirtual 118, 3) := by decide +kernel
theorem d_F_soundSize_27 : decode b_F_soundSize 27 = .ok (.istore_n 2, 1) := by decide +kernel
theorem d_F_soundSize_28 : decode b_F_soundSize 28 = .ok (.aload_n 0, 1) := by decide +kernel
theorem d_F_soundSize_29 : decode b_F_soundSize 29 = .ok (.getfield 14, 3) := by decide +kernel
theorem d_F_soundSize_32 : decode b_F_soundSize 32 = .ok (.iload_n 1, 1) := by decide +kernel
theorem d_F_soundSize_33 : decode b_F_soundSize 33 = .ok (.bipush 7, 2) := by decide +kernel
theorem d_F_soundSize_35 : decode b_F_soundSize 35 = .ok (.iadd, 1) := by decide +kernel
theorem d_F_soundSize_36 : decode b_F_soundSize 36 = .ok (.invokevirtual 118, 3) := by decide +kernel
theorem d_F_soundSize_39 : decode b_F_soundSize 39 = .ok (.istore_n 3, 1) := by decide +kernel
theorem d_F_soundSize_40 : decode b_F_soundSize 40 = .ok (.iload_n 3, 1) := by decide +kernel
theorem d_F_soundSize_41 : decode b_F_soundSize 41 = .ok (.sipush 255, 3) := by decide +kernel
theorem d_F_soundSize_44 : decode b_F_soundSize 44 = .ok (.if_icmp .ne 7, 3) := by decide +kernel
theorem d_F_soundSize_47 : decode b_F_soundSize 47 = .ok (.iconst 1, 1) := by decide +kernel
theorem d_F_soundSize_48 : decode b_F_soundSize 48 = .ok (.goto 4, 3) := by decide +kernel
theorem d_F_soundSize_51 : decode b_F_soundSize 51 = .ok (.iconst 0, 1) := by decide +kernel
theorem d_F_soundSize_52 : decode b_F_soundSize 52 = .ok (.istore 4, 2) := by decide +kernel
theorem d_F_soundSize_54 : decode b_F_soundSize 54 = .ok (.iload_n 2, 1) := by decide +kernel
theorem d_F_soundSize_55 : decode b_F_soundSize 55 = .ok (.invokestatic 121, 3) := by decide +kernel
theorem d_F_soundSize_58 : decode b_F_soundSize 58 = .ok (.ifCond .eq 15, 3) := by decide +kernel
theorem d_F_soundSize_61 : decode b_F_soundSize 61 = .ok (.iload 4, 2) := by decide +kernel
theorem d_F_soundSize_63 : decode b_F_soundSize 63 = .ok (.ifCond .ne 12, 3) := by decide +kernel
theorem d_F_soundSize_66 : decode b_F_soundSize 66 = .ok (.iload_n 3, 1) := by decide +kernel
theorem d_F_soundSize_67 : decode b_F_soundSize 67 = .ok (.invokestatic 125, 3) := by decide +kernel
theorem d_F_soundSize_70 : decode b_F_soundSize 70 = .ok (.ifCond .ne 5, 3) := by decide +kernel
theorem d_F_soundSize_73 : decode b_F_soundSize 73 = .ok (.iconst 0, 1) := by decide +kernel
theorem d_F_soundSize_74 : decode b_F_soundSize 74 = .ok (.ireturn, 1) := by decide +kernel
theorem d_F_soundSize_75 : decode b_F_soundSize 75 = .ok (.iload_n 2, 1) := by decide +kernel
theorem d_F_soundSize_76 : decode b_F_soundSize 76 = .ok (.iload_n 3, 1) := by decide +kernel
theorem d_F_soundSize_77 : decode b_F_soundSize 77 = .ok (.invokestatic 131, 3) := by decide +kernel
theorem d_F_soundSize_80 : decode b_F_soundSize 80 = .ok (.istore 5, 2) := by decide +kernel
theorem d_F_soundSize_82 : decode b_F_soundSize 82 = .ok (.iload_n 1, 1) := by decide +kernel
theorem d_F_soundSize_83 : decode b_F_soundSize 83 = .ok (.iload 5, 2) := by decide +kernel
theorem d_F_soundSize_85 : decode b_F_soundSize 85 = .ok (.iadd, 1) := by decide +kernel
theorem d_F_soundSize_86 : decode b_F_soundSize 86 = .ok (.aload_n 0, 1) := by decide +kernel
theorem d_F_soundSize_87 : decode b_F_soundSize 87 = .ok (.getfield 14, 3) := by decide +kernel
theorem d_F_soundSize_90 : decode b_F_soundSize 90 = .ok (.invokevirtual 43, 3) := by decide +kernel
theorem d_F_soundSize_93 : decode b_F_soundSize 93 = .ok (.if_icmp .gt 18, 3) := by decide +kernel
theorem d_F_soundSize_96 : decode b_F_soundSize 96 = .ok (.aload_n 0, 1) := by decide +kernel
theorem d_F_soundSize_97 : decode b_F_soundSize 97 = .ok (.iload_n 1, 1) := by decide +kernel
theorem d_F_soundSize_98 : decode b_F_soundSize 98 = .ok (.iload 5, 2) := by decide +kernel
theorem d_F_soundSize_100 : decode b_F_soundSize 100 = .ok (.invokevirtual 138, 3) := by decide +kernel
theorem d_F_soundSize_103 : decode b_F_soundSize 103 = .ok (.ifCond .eq 8, 3) := by decide +kernel
theorem d_F_soundSize_106 : decode b_F_soundSize 106 = .ok (.iload 5, 2) := by decide +kernel
theorem d_F_soundSize_108 : decode b_F_soundSize 108 = .ok (.goto 4, 3) := by decide +kernel
theorem d_F_soundSize_111 : decode b_F_soundSize 111 = .ok (.iconst 0, 1) := by decide +kernel
theorem d_F_soundSize_112 : decode b_F_soundSize 112 = .ok (.ireturn, 1) := by decide +kernel
theorem d_F_note_0 : decode b_F_note 0 = .ok (.aload_n 0, 1) := by decide +kernel
theorem d_F_note_1 : decode b_F_note 1 = .ok (.getfield 33, 3) := by decide +kernel
theorem d_F_note_4 : decode b_F_note 4 = .ok (.aload_n 0, 1) := by decide +kernel
theorem d_F_note_5 : decode b_F_note 5 = .ok (.getfield 25, 3) := by decide +kernel
theorem d_F_note_8 : decode b_F_note 8 = .ok (.arraylength, 1) := by decide +kernel
theorem d_F_note_9 : decode b_F_note 9 = .ok (.if_icmp .ge 13, 3) := by decide +kernel
theorem d_F_note_12 : decode b_F_note 12 = .ok (.aload_n 0, 1) := by decide +kernel
theorem d_F_note_13 : decode b_F_note 13 = .ok (.dup, 1) := by decide +kernel
theorem d_F_note_14 : decode b_F_note 14 = .ok (.getfield 33, 3) := by decide +kernel
theorem d_F_note_17 : decode b_F_note 17 = .ok (.iconst 1, 1) := by decide +kernel
theorem d_F_note_18 : decode b_F_note 18 = .ok (.iadd, 1) := by decide +kernel
theorem d_F_note_19 : decode b_F_note 19 = .ok (.putfield 33, 3) := by decide +kernel
theorem d_F_note_22 : decode b_F_note 22 = .ok (.aload_n 0, 1) := by decide +kernel
theorem d_F_note_23 : decode b_F_note 23 = .ok (.getfield 25, 3) := by decide +kernel
theorem d_F_note_26 : decode b_F_note 26 = .ok (.aload_n 0, 1) := by decide +kernel
theorem d_F_note_27 : decode b_F_note 27 = .ok (.getfield 33, 3) := by decide +kernel
theorem d_F_note_30 : decode b_F_note 30 = .ok (.iconst 1, 1) := by decide +kernel
theorem d_F_note_31 : decode b_F_note 31 = .ok (.isub, 1) := by decide +kernel
theorem d_F_note_32 : decode b_F_note 32 = .ok (.aaload, 1) := by decide +kernel
theorem d_F_note_33 : decode b_F_note 33 = .ok (.astore 6, 2) := by decide +kernel
theorem d_F_note_35 : decode b_F_note 35 = .ok (.aload 6, 2) := by decide +kernel
theorem d_F_note_37 : decode b_F_note 37 = .ok (.aload_n 0, 1) := by decide +kernel
theorem d_F_note_38 : decode b_F_note 38 = .ok (.putfield 142, 3) := by decide +kernel
theorem d_F_note_41 : decode b_F_note 41 = .ok (.aload 6, 2) := by decide +kernel
theorem d_F_note_43 : decode b_F_note 43 = .ok (.iload_n 1, 1) := by decide +kernel
theorem d_F_note_44 : decode b_F_note 44 = .ok (.putfield 101, 3) := by decide +kernel
theorem d_F_note_47 : decode b_F_note 47 = .ok (.aload 6, 2) := by decide +kernel
theorem d_F_note_49 : decode b_F_note 49 = .ok (.lload_n 2, 1) := by decide +kernel
theorem d_F_note_50 : decode b_F_note 50 = .ok (.putfield 92, 3) := by decide +kernel
theorem d_F_note_53 : decode b_F_note 53 = .ok (.aload 6, 2) := by decide +kernel
theorem d_F_note_55 : decode b_F_note 55 = .ok (.iload 4, 2) := by decide +kernel
theorem d_F_note_57 : decode b_F_note 57 = .ok (.putfield 96, 3) := by decide +kernel
theorem d_F_note_60 : decode b_F_note 60 = .ok (.aload 6, 2) := by decide +kernel
theorem d_F_note_62 : decode b_F_note 62 = .ok (.aload 5, 2) := by decide +kernel
theorem d_F_note_64 : decode b_F_note 64 = .ok (.putfield 146, 3) := by decide +kernel
theorem d_F_note_67 : decode b_F_note 67 = .ok (.aload 6, 2) := by decide +kernel
theorem d_F_note_69 : decode b_F_note 69 = .ok (.areturn, 1) := by decide +kernel
end
section
theorem d_M_init_0 : decode b_M_init 0 = .ok (.aload_n 0, 1) := by decide +kernel
theorem d_M_init_1 : decode b_M_init 1 = .ok (.invokespecial 1, 3) := by decide +kernel
theorem d_M_init_4 : decode b_M_init 4 = .ok (.aload_n 0, 1) := by decide +kernel
theorem d_M_init_5 : decode b_M_init 5 = .ok (.bipush 12, 2) := by decide +kernel
theorem d_M_init_7 : decode b_M_init 7 = .ok (.newarray .int, 2) := by decide +kernel
theorem d_M_init_9 : decode b_M_init 9 = .ok (.putfield 7, 3) := by decide +kernel
theorem d_M_init_12 : decode b_M_init 12 = .ok (.aload_n 0, 1) := by decide +kernel
theorem d_M_init_13 : decode b_M_init 13 = .ok (.bipush 12, 2) := by decide +kernel
theorem d_M_init_15 : decode b_M_init 15 = .ok (.newarray .int, 2) := by decide +kernel
theorem d_M_init_17 : decode b_M_init 17 = .ok (.putfield 13, 3) := by decide +kernel
theorem d_M_init_20 : decode b_M_init 20 = .ok (.aload_n 0, 1) := by decide +kernel
theorem d_M_init_21 : decode b_M_init 21 = .ok (.bipush 12, 2) := by decide +kernel
theorem d_M_init_23 : decode b_M_init 23 = .ok (.newarray .int, 2) := by decide +kernel
theorem d_M_init_25 : decode b_M_init 25 = .ok (.putfield 16, 3) := by decide +kernel
theorem d_M_init_28 : decode b_M_init 28 = .ok (.aload_n 0, 1) := by decide +kernel
theorem d_M_init_29 : decode b_M_init 29 = .ok (.sipush 1200, 3) := by decide +kernel
theorem d_M_init_32 : decode b_M_init 32 = .ok (.newarray .int, 2) := by decide +kernel
theorem d_M_init_34 : decode b_M_init 34 = .ok (.putfield 19, 3) := by decide +kernel
theorem d_M_init_37 : decode b_M_init 37 = .ok (.aload_n 0, 1) := by decide +kernel
theorem d_M_init_38 : decode b_M_init 38 = .ok (.bipush 12, 2) := by decide +kernel
theorem d_M_init_40 : decode b_M_init 40 = .ok (.newarray .boolean, 2) := by decide +kernel
theorem d_M_init_42 : decode b_M_init 42 = .ok (.putfield 22, 3) := by decide +kernel
theorem d_M_init_45 : decode b_M_init 45 = .ok (.aload_n 0, 1) := by decide +kernel
theorem d_M_init_46 : decode b_M_init 46 = .ok (.bipush 12, 2) := by decide +kernel
theorem d_M_init_48 : decode b_M_init 48 = .ok (.newarray .int, 2) := by decide +kernel
theorem d_M_init_50 : decode b_M_init 50 = .ok (.putfield 26, 3) := by decide +kernel
theorem d_M_init_53 : decode b_M_init 53 = .ok (.aload_n 0, 1) := by decide +kernel
theorem d_M_init_54 : decode b_M_init 54 = .ok (.sipush 1440, 3) := by decide +kernel
theorem d_M_init_57 : decode b_M_init 57 = .ok (.newarray .int, 2) := by decide +kernel
theorem d_M_init_59 : decode b_M_init 59 = .ok (.putfield 29, 3) := by decide +kernel
theorem d_M_init_62 : decode b_M_init 62 = .ok (.aload_n 0, 1) := by decide +kernel
theorem d_M_init_63 : decode b_M_init 63 = .ok (.bipush 12, 2) := by decide +kernel
theorem d_M_init_65 : decode b_M_init 65 = .ok (.newarray .int, 2) := by decide +kernel
theorem d_M_init_67 : decode b_M_init 67 = .ok (.putfield 32, 3) := by decide +kernel
theorem d_M_init_70 : decode b_M_init 70 = .ok (.aload_n 0, 1) := by decide +kernel
theorem d_M_init_71 : decode b_M_init 71 = .ok (.sipush 144, 3) := by decide +kernel
theorem d_M_init_74 : decode b_M_init 74 = .ok (.newarray .int, 2) := by decide +kernel
theorem d_M_init_76 : decode b_M_init 76 = .ok (.putfield 35, 3) := by decide +kernel
theorem d_M_init_79 : decode b_M_init 79 = .ok (.aload_n 0, 1) := by decide +kernel
theorem d_M_init_80 : decode b_M_init 80 = .ok (.sipush 144, 3) := by decide +kernel
theorem d_M_init_83 : decode b_M_init 83 = .ok (.newarray .int, 2) := by decide +kernel
theorem d_M_init_85 : decode b_M_init 85 = .ok (.putfield 38, 3) := by decide +kernel
theorem d_M_init_88 : decode b_M_init 88 = .ok (.aload_n 0, 1) := by decide +kernel
theorem d_M_init_89 : decode b_M_init 89 = .ok (.sipush 144, 3) := by decide +kernel
theorem d_M_init_92 : decode b_M_init 92 = .ok (.newarray .int, 2) := by decide +kernel
theorem d_M_init_94 : decode b_M_init 94 = .ok (.putfield 41, 3) := by decide +kernel
theorem d_M_init_97 : decode b_M_init 97 = .ok (.aload_n 0, 1) := by decide +kernel
theorem d_M_init_98 : decode b_M_init 98 = .ok (.sipush 144, 3) := by decide +kernel
theorem d_M_init_101 : decode b_M_init 101 = .ok (.newarray .int, 2) := by decide +kernel
theorem d_M_init_103 : decode b_M_init 103 = .ok (.putfield 44, 3) := by decide +kernel
theorem d_M_init_106 : decode b_M_init 106 = .ok (.aload_n 0, 1) := by decide +kernel
theorem d_M_init_107 : decode b_M_init 107 = .ok (.sipush 144, 3) := by decide +kernel
theorem d_M_init_110 : decode b_M_init 110 = .ok (.newarray .int, 2) := by decide +kernel
theorem d_M_init_112 : decode b_M_init 112 = .ok (.putfield 47, 3) := by decide +kernel
theorem d_M_init_115 : decode b_M_init 115 = .ok (.aload_n 0, 1) := by decide +kernel
theorem d_M_init_116 : decode b_M_init 116 = .ok (.bipush 80, 2) := by decide +kernel
theorem d_M_init_118 : decode b_M_init 118 = .ok (.newarray .long, 2) := by decide +kernel
theorem d_M_init_120 : decode b_M_init 120 = .ok (.putfield 50, 3) := by decide +kernel
theorem d_M_init_123 : decode b_M_init 123 = .ok (.aload_n 0, 1) := by decide +kernel
theorem d_M_init_124 : decode b_M_init 124 = .ok (.bipush 80, 2) := by decide +kernel
theorem d_M_init_126 : decode b_M_init 126 = .ok (.newarray .int, 2) := by decide +kernel
theorem d_M_init_128 : decode b_M_init 128 = .ok (.putfield 54, 3) := by decide +kernel
theorem d_M_init_131 : decode b_M_init 131 = .ok (.aload_n 0, 1) := by decide +kernel
theorem d_M_init_132 : decode b_M_init 132 = .ok (.bipush 80, 2) := by decide +kernel
theorem d_M_init_134 : decode b_M_init 134 = .ok (.newarray .int, 2) := by decide +kernel
theorem d_M_init_136 : decode b_M_init 136 = .ok (.putfield 57, 3) := by decide +kernel
theorem d_M_init_139 : decode b_M_init 139 = .ok (.aload_n 0, 1) := by decide +kernel
theorem d_M_init_140 : decode b_M_init 140 = .ok (.bipush 80, 2) := by decide +kernel
theorem d_M_init_142 : decode b_M_init 142 = .ok (.newarray .int, 2) := by decide +kernel
theorem d_M_init_144 : decode b_M_init 144 = .ok (.putfield 60, 3) := by decide +kernel
theorem d_M_init_147 : decode b_M_init 147 = .ok (.return_, 1) := by decide +kernel
theorem d_M_thrown_0 : decode b_M_thrown 0 = .ok (.aload_n 0, 1) := by decide +kernel
theorem d_M_thrown_1 : decode b_M_thrown 1 = .ok (.getfield 63, 3) := by decide +kernel
theorem d_M_thrown_4 : decode b_M_thrown 4 = .ok (.ireturn, 1) := by decide +kernel
theorem d_M_in_0 : decode b_M_in 0 = .ok (.iload_n 0, 1) := by decide +kernel
theorem d_M_in_1 : decode b_M_in 1 = .ok (.iload_n 1, 1) := by decide +kernel
theorem d_M_in_2 : decode b_M_in 2 = .ok (.if_icmp .lt 12, 3) := by decide +kernel
theorem d_M_in_5 : decode b_M_in 5 = .ok (.iload_n 0, 1) := by decide +kernel
theorem d_M_in_6 : decode b_M_in 6 = .ok (.iload_n 2, 1) := by decide +kernel
theorem d_M_in_7 : decode b_M_in 7 = .ok (.if_icmp .gt 7, 3) := by decide +kernel
theorem d_M_in_10 : decode b_M_in 10 = .ok (.iconst 1, 1) := by decide +kernel
theorem d_M_in_11 : decode b_M_in 11 = .ok (.goto 4, 3) := by decide +kernel
theorem d_M_in_14 : decode b_M_in 14 = .ok (.iconst 0, 1) := by decide +kernel
theorem d_M_in_15 : decode b_M_in 15 = .ok (.ireturn, 1) := by decide +kernel
theorem d_M_fail_0 : decode b_M_fail 0 = .ok (.aload_n 0, 1) := by decide +kernel
theorem d_M_fail_1 : decode b_M_fail 1 = .ok (.iload_n 1, 1) := by decide +kernel
theorem d_M_fail_2 : decode b_M_fail 2 = .ok (.putfield 63, 3) := by decide +kernel
theorem d_M_fail_5 : decode b_M_fail 5 = .ok (.iconst 0, 1) := by decide +kernel
theorem d_M_fail_6 : decode b_M_fail 6 = .ok (.ireturn, 1) := by decide +kernel
theorem d_M_summed_0 : decode b_M_summed 0 = .ok (.lload_n 0, 1) := by decide +kernel
theorem d_M_summed_1 : decode b_M_summed 1 = .ok (.iload_n 2, 1) := by decide +kernel
theorem d_M_summed_2 : decode b_M_summed 2 = .ok (.i2l, 1) := by decide +kernel
theorem d_M_summed_3 : decode b_M_summed 3 = .ok (.lxor, 1) := by decide +kernel
theorem d_M_summed_4 : decode b_M_summed 4 = .ok (.lstore_n 3, 1) := by decide +kernel
theorem d_M_summed_5 : decode b_M_summed 5 = .ok (.iconst 0, 1) := by decide +kernel
theorem d_M_summed_6 : decode b_M_summed 6 = .ok (.istore 5, 2) := by decide +kernel
theorem d_M_summed_8 : decode b_M_summed 8 = .ok (.iload 5, 2) := by decide +kernel
theorem d_M_summed_10 : decode b_M_summed 10 = .ok (.bipush 8, 2) := by decide +kernel
theorem d_M_summed_12 : decode b_M_summed 12 = .ok (.if_icmp .ge 37, 3) := by decide +kernel
theorem d_M_summed_15 : decode b_M_summed 15 = .ok (.lload_n 3, 1) := by decide +kernel
theorem d_M_summed_16 : decode b_M_summed 16 = .ok (.ldc2_w 67, 3) := by decide +kernel
theorem d_M_summed_19 : decode b_M_summed 19 = .ok (.lrem, 1) := by decide +kernel
theorem d_M_summed_20 : decode b_M_summed 20 = .ok (.lconst 1, 1) := by decide +kernel
theorem d_M_summed_21 : decode b_M_summed 21 = .ok (.lcmp, 1) := by decide +kernel
theorem d_M_summed_22 : decode b_M_summed 22 = .ok (.ifCond .ne 15, 3) := by decide +kernel
theorem d_M_summed_25 : decode b_M_summed 25 = .ok (.lload_n 3, 1) := by decide +kernel
theorem d_M_summed_26 : decode b_M_summed 26 = .ok (.ldc2_w 67, 3) := by decide +kernel
theorem d_M_summed_29 : decode b_M_summed 29 = .ok (.ldiv, 1) := by decide +kernel
theorem d_M_summed_30 : decode b_M_summed 30 = .ok (.ldc2_w 69, 3) := by decide +kernel
theorem d_M_summed_33 : decode b_M_summed 33 = .ok (.lxor, 1) := by decide +kernel
theorem d_M_summed_34 : decode b_M_summed 34 = .ok (.goto 8, 3) := by decide +kernel
theorem d_M_summed_37 : decode b_M_summed 37 = .ok (.lload_n 3, 1) := by decide +kernel
theorem d_M_summed_38 : decode b_M_summed 38 = .ok (.ldc2_w 67, 3) := by decide +kernel
theorem d_M_summed_41 : decode b_M_summed 41 = .ok (.ldiv, 1) := by decide +kernel
theorem d_M_summed_42 : decode b_M_summed 42 = .ok (.lstore_n 3, 1) := by decide +kernel
theorem d_M_summed_43 : decode b_M_summed 43 = .ok (.iinc 5 1, 3) := by decide +kernel
theorem d_M_summed_46 : decode b_M_summed 46 = .ok (.goto (-38), 3) := by decide +kernel
theorem d_M_summed_49 : decode b_M_summed 49 = .ok (.lload_n 3, 1) := by decide +kernel
theorem d_M_summed_50 : decode b_M_summed 50 = .ok (.lreturn, 1) := by decide +kernel
theorem d_M_sumOf_0 : decode b_M_sumOf 0 = .ok (.ldc2_w 71, 3) := by decide +kernel
theorem d_M_sumOf_3 : decode b_M_sumOf 3 = .ok (.lstore_n 3, 1) := by decide +kernel
theorem d_M_sumOf_4 : decode b_M_sumOf 4 = .ok (.iload_n 1, 1) := by decide +kernel
theorem d_M_sumOf_5 : decode b_M_sumOf 5 = .ok (.istore 5, 2) := by decide +kernel
theorem d_M_sumOf_7 : decode b_M_sumOf 7 = .ok (.iload 5, 2) := by decide +kernel
theorem d_M_sumOf_9 : decode b_M_sumOf 9 = .ok (.iload_n 2, 1) := by decide +kernel
theorem d_M_sumOf_10 : decode b_M_sumOf 10 = .ok (.if_icmp .ge 18, 3) := by decide +kernel
theorem d_M_sumOf_13 : decode b_M_sumOf 13 = .ok (.lload_n 3, 1) := by decide +kernel
theorem d_M_sumOf_14 : decode b_M_sumOf 14 = .ok (.aload_n 0, 1) := by decide +kernel
theorem d_M_sumOf_15 : decode b_M_sumOf 15 = .ok (.iload 5, 2) := by decide +kernel
theorem d_M_sumOf_17 : decode b_M_sumOf 17 = .ok (.iaload, 1) := by decide +kernel
theorem d_M_sumOf_18 : decode b_M_sumOf 18 = .ok (.invokestatic 73, 3) := by decide +kernel
theorem d_M_sumOf_21 : decode b_M_sumOf 21 = .ok (.lstore_n 3, 1) := by decide +kernel
theorem d_M_sumOf_22 : decode b_M_sumOf 22 = .ok (.iinc 5 1, 3) := by decide +kernel
theorem d_M_sumOf_25 : decode b_M_sumOf 25 = .ok (.goto (-18), 3) := by decide +kernel
theorem d_M_sumOf_28 : decode b_M_sumOf 28 = .ok (.ldc2_w 71, 3) := by decide +kernel
theorem d_M_sumOf_31 : decode b_M_sumOf 31 = .ok (.lload_n 3, 1) := by decide +kernel
theorem d_M_sumOf_32 : decode b_M_sumOf 32 = .ok (.lsub, 1) := by decide +kernel
theorem d_M_sumOf_33 : decode b_M_sumOf 33 = .ok (.lreturn, 1) := by decide +kernel
theorem d_M_numberIn_0 : decode b_M_numberIn 0 = .ok (.lconst 0, 1) := by decide +kernel
theorem d_M_numberIn_1 : decode b_M_numberIn 1 = .ok (.lstore_n 3, 1) := by decide +kernel
theorem d_M_numberIn_2 : decode b_M_numberIn 2 = .ok (.iconst 0, 1) := by decide +kernel
theorem d_M_numberIn_3 : decode b_M_numberIn 3 = .ok (.istore 5, 2) := by decide +kernel
theorem d_M_numberIn_5 : decode b_M_numberIn 5 = .ok (.iload 5, 2) := by decide +kernel
theorem d_M_numberIn_7 : decode b_M_numberIn 7 = .ok (.iload_n 2, 1) := by decide +kernel
theorem d_M_numberIn_8 : decode b_M_numberIn 8 = .ok (.if_icmp .ge 23, 3) := by decide +kernel
theorem d_M_numberIn_11 : decode b_M_numberIn 11 = .ok (.lload_n 3, 1) := by decide +kernel
theorem d_M_numberIn_12 : decode b_M_numberIn 12 = .ok (.ldc2_w 77, 3) := by decide +kernel
theorem d_M_numberIn_15 : decode b_M_numberIn 15 = .ok (.lmul, 1) := by decide +kernel
theorem d_M_numberIn_16 : decode b_M_numberIn 16 = .ok (.aload_n 0, 1) := by decide +kernel
theorem d_M_numberIn_17 : decode b_M_numberIn 17 = .ok (.iload_n 1, 1) := by decide +kernel
theorem d_M_numberIn_18 : decode b_M_numberIn 18 = .ok (.iload 5, 2) := by decide +kernel
theorem d_M_numberIn_20 : decode b_M_numberIn 20 = .ok (.iadd, 1) := by decide +kernel
theorem d_M_numberIn_21 : decode b_M_numberIn 21 = .ok (.iaload, 1) := by decide +kernel
theorem d_M_numberIn_22 : decode b_M_numberIn 22 = .ok (.i2l, 1) := by decide +kernel
theorem d_M_numberIn_23 : decode b_M_numberIn 23 = .ok (.ladd, 1) := by decide +kernel
theorem d_M_numberIn_24 : decode b_M_numberIn 24 = .ok (.lstore_n 3, 1) := by decide +kernel
theorem d_M_numberIn_25 : decode b_M_numberIn 25 = .ok (.iinc 5 1, 3) := by decide +kernel
theorem d_M_numberIn_28 : decode b_M_numberIn 28 = .ok (.goto (-23), 3) := by decide +kernel
theorem d_M_numberIn_31 : decode b_M_numberIn 31 = .ok (.lload_n 3, 1) := by decide +kernel
theorem d_M_numberIn_32 : decode b_M_numberIn 32 = .ok (.lreturn, 1) := by decide +kernel
theorem d_M_cut_0 : decode b_M_cut 0 = .ok (.lconst 0, 1) := by decide +kernel
theorem d_M_cut_1 : decode b_M_cut 1 = .ok (.lstore_n 3, 1) := by decide +kernel
theorem d_M_cut_2 : decode b_M_cut 2 = .ok (.iload_n 2, 1) := by decide +kernel
theorem d_M_cut_3 : decode b_M_cut 3 = .ok (.iconst 1, 1) := by decide +kernel
theorem d_M_cut_4 : decode b_M_cut 4 = .ok (.isub, 1) := by decide +kernel
theorem d_M_cut_5 : decode b_M_cut 5 = .ok (.istore 5, 2) := by decide +kernel
theorem d_M_cut_7 : decode b_M_cut 7 = .ok (.iload 5, 2) := by decide +kernel
theorem d_M_cut_9 : decode b_M_cut 9 = .ok (.ifCond .lt 26, 3) := by decide +kernel
theorem d_M_cut_12 : decode b_M_cut 12 = .ok (.lload_n 3, 1) := by decide +kernel
theorem d_M_cut_13 : decode b_M_cut 13 = .ok (.bipush 8, 2) := by decide +kernel
theorem d_M_cut_15 : decode b_M_cut 15 = .ok (.lshl, 1) := by decide +kernel
theorem d_M_cut_16 : decode b_M_cut 16 = .ok (.lload_n 0, 1) := by decide +kernel
theorem d_M_cut_17 : decode b_M_cut 17 = .ok (.bipush 8, 2) := by decide +kernel
theorem d_M_cut_19 : decode b_M_cut 19 = .ok (.iload 5, 2) := by decide +kernel
theorem d_M_cut_21 : decode b_M_cut 21 = .ok (.imul, 1) := by decide +kernel
theorem d_M_cut_22 : decode b_M_cut 22 = .ok (.lshr, 1) := by decide +kernel
theorem d_M_cut_23 : decode b_M_cut 23 = .ok (.ldc2_w 79, 3) := by decide +kernel
theorem d_M_cut_26 : decode b_M_cut 26 = .ok (.land, 1) := by decide +kernel
theorem d_M_cut_27 : decode b_M_cut 27 = .ok (.lor, 1) := by decide +kernel
theorem d_M_cut_28 : decode b_M_cut 28 = .ok (.lstore_n 3, 1) := by decide +kernel
theorem d_M_cut_29 : decode b_M_cut 29 = .ok (.iinc 5 (-1), 3) := by decide +kernel
theorem d_M_cut_32 : decode b_M_cut 32 = .ok (.goto (-25), 3) := by decide +kernel
theorem d_M_cut_35 : decode b_M_cut 35 = .ok (.lload_n 3, 1) := by decide +kernel
theorem d_M_cut_36 : decode b_M_cut 36 = .ok (.lreturn, 1) := by decide +kernel
theorem d_M_lengthOf_0 : decode b_M_lengthOf 0 = .ok (.bipush 8, 2) := by decide +kernel
theorem d_M_lengthOf_2 : decode b_M_lengthOf 2 = .ok (.iload_n 0, 1) := by decide +kernel
theorem d_M_lengthOf_3 : decode b_M_lengthOf 3 = .ok (.iadd, 1) := by decide +kernel
theorem d_M_lengthOf_4 : decode b_M_lengthOf 4 = .ok (.iload_n 1, 1) := by decide +kernel
theorem d_M_lengthOf_5 : decode b_M_lengthOf 5 = .ok (.sipush 255, 3) := by decide +kernel
theorem d_M_lengthOf_8 : decode b_M_lengthOf 8 = .ok (.if_icmp .ne 7, 3) := by decide +kernel
theorem d_M_lengthOf_11 : decode b_M_lengthOf 11 = .ok (.iconst 0, 1) := by decide +kernel
theorem d_M_lengthOf_12 : decode b_M_lengthOf 12 = .ok (.goto 4, 3) := by decide +kernel
theorem d_M_lengthOf_15 : decode b_M_lengthOf 15 = .ok (.iload_n 1, 1) := by decide +kernel
theorem d_M_lengthOf_16 : decode b_M_lengthOf 16 = .ok (.iadd, 1) := by decide +kernel
theorem d_M_lengthOf_17 : decode b_M_lengthOf 17 = .ok (.ireturn, 1) := by decide +kernel
theorem d_M_length_0 : decode b_M_length 0 = .ok (.aload_n 0, 1) := by decide +kernel
theorem d_M_length_1 : decode b_M_length 1 = .ok (.getfield 38, 3) := by decide +kernel
theorem d_M_length_4 : decode b_M_length 4 = .ok (.bipush 12, 2) := by decide +kernel
theorem d_M_length_6 : decode b_M_length 6 = .ok (.iload_n 1, 1) := by decide +kernel
theorem d_M_length_7 : decode b_M_length 7 = .ok (.imul, 1) := by decide +kernel
theorem d_M_length_8 : decode b_M_length 8 = .ok (.iload_n 2, 1) := by decide +kernel
theorem d_M_length_9 : decode b_M_length 9 = .ok (.iadd, 1) := by decide +kernel
theorem d_M_length_10 : decode b_M_length 10 = .ok (.iaload, 1) := by decide +kernel
theorem d_M_length_11 : decode b_M_length 11 = .ok (.aload_n 0, 1) := by decide +kernel
theorem d_M_length_12 : decode b_M_length 12 = .ok (.getfield 41, 3) := by decide +kernel
theorem d_M_length_15 : decode b_M_length 15 = .ok (.bipush 12, 2) := by decide +kernel
theorem d_M_length_17 : decode b_M_length 17 = .ok (.iload_n 1, 1) := by decide +kernel
theorem d_M_length_18 : decode b_M_length 18 = .ok (.imul, 1) := by decide +kernel
theorem d_M_length_19 : decode b_M_length 19 = .ok (.iload_n 2, 1) := by decide +kernel
theorem d_M_length_20 : decode b_M_length 20 = .ok (.iadd, 1) := by decide +kernel
theorem d_M_length_21 : decode b_M_length 21 = .ok (.iaload, 1) := by decide +kernel
theorem d_M_length_22 : decode b_M_length 22 = .ok (.invokestatic 81, 3) := by decide +kernel
theorem d_M_length_25 : decode b_M_length 25 = .ok (.ireturn, 1) := by decide +kernel
theorem d_M_note_0 : decode b_M_note 0 = .ok (.bipush 12, 2) := by decide +kernel
theorem d_M_note_2 : decode b_M_note 2 = .ok (.iload_n 1, 1) := by decide +kernel
theorem d_M_note_3 : decode b_M_note 3 = .ok (.imul, 1) := by decide +kernel
theorem d_M_note_4 : decode b_M_note 4 = .ok (.aload_n 0, 1) := by decide +kernel
theorem d_M_note_5 : decode b_M_note 5 = .ok (.getfield 32, 3) := by decide +kernel
theorem d_M_note_8 : decode b_M_note 8 = .ok (.iload_n 1, 1) := by decide +kernel
theorem d_M_note_9 : decode b_M_note 9 = .ok (.iaload, 1) := by decide +kernel
theorem d_M_note_10 : decode b_M_note 10 = .ok (.iadd, 1) := by decide +kernel
theorem d_M_note_11 : decode b_M_note 11 = .ok (.istore 5, 2) := by decide +kernel
theorem d_M_note_13 : decode b_M_note 13 = .ok (.aload_n 0, 1) := by decide +kernel
theorem d_M_note_14 : decode b_M_note 14 = .ok (.getfield 35, 3) := by decide +kernel
theorem d_M_note_17 : decode b_M_note 17 = .ok (.iload 5, 2) := by decide +kernel
theorem d_M_note_19 : decode b_M_note 19 = .ok (.iload_n 2, 1) := by decide +kernel
theorem d_M_note_20 : decode b_M_note 20 = .ok (.iastore, 1) := by decide +kernel
theorem d_M_note_21 : decode b_M_note 21 = .ok (.aload_n 0, 1) := by decide +kernel
theorem d_M_note_22 : decode b_M_note 22 = .ok (.getfield 38, 3) := by decide +kernel
theorem d_M_note_25 : decode b_M_note 25 = .ok (.iload 5, 2) := by decide +kernel
theorem d_M_note_27 : decode b_M_note 27 = .ok (.iload_n 3, 1) := by decide +kernel
theorem d_M_note_28 : decode b_M_note 28 = .ok (.iastore, 1) := by decide +kernel
theorem d_M_note_29 : decode b_M_note 29 = .ok (.aload_n 0, 1) := by decide +kernel
theorem d_M_note_30 : decode b_M_note 30 = .ok (.getfield 41, 3) := by decide +kernel
theorem d_M_note_33 : decode b_M_note 33 = .ok (.iload 5, 2) := by decide +kernel
theorem d_M_note_35 : decode b_M_note 35 = .ok (.iload 4, 2) := by decide +kernel
theorem d_M_note_37 : decode b_M_note 37 = .ok (.iastore, 1) := by decide +kernel
theorem d_M_note_38 : decode b_M_note 38 = .ok (.aload_n 0, 1) := by decide +kernel
theorem d_M_note_39 : decode b_M_note 39 = .ok (.getfield 32, 3) := by decide +kernel
theorem d_M_note_42 : decode b_M_note 42 = .ok (.iload_n 1, 1) := by decide +kernel
theorem d_M_note_43 : decode b_M_note 43 = .ok (.dup2, 1) := by decide +kernel
theorem d_M_note_44 : decode b_M_note 44 = .ok (.iaload, 1) := by decide +kernel
theorem d_M_note_45 : decode b_M_note 45 = .ok (.iconst 1, 1) := by decide +kernel
theorem d_M_note_46 : decode b_M_note 46 = .ok (.iadd, 1) := by decide +kernel
theorem d_M_note_47 : decode b_M_note 47 = .ok (.iastore, 1) := by decide +kernel
theorem d_M_note_48 : decode b_M_note 48 = .ok (.return_, 1) := by decide +kernel
theorem d_M_clearRow_0 : decode b_M_clearRow 0 = .ok (.aload_n 0, 1) := by decide +kernel
theorem d_M_clearRow_1 : decode b_M_clearRow 1 = .ok (.getfield 13, 3) := by decide +kernel
theorem d_M_clearRow_4 : decode b_M_clearRow 4 = .ok (.iload_n 1, 1) := by decide +kernel
theorem d_M_clearRow_5 : decode b_M_clearRow 5 = .ok (.iconst 0, 1) := by decide +kernel
theorem d_M_clearRow_6 : decode b_M_clearRow 6 = .ok (.iastore, 1) := by decide +kernel
theorem d_M_clearRow_7 : decode b_M_clearRow 7 = .ok (.aload_n 0, 1) := by decide +kernel
theorem d_M_clearRow_8 : decode b_M_clearRow 8 = .ok (.getfield 16, 3) := by decide +kernel
theorem d_M_clearRow_11 : decode b_M_clearRow 11 = .ok (.iload_n 1, 1) := by decide +kernel
theorem d_M_clearRow_12 : decode b_M_clearRow 12 = .ok (.iconst 0, 1) := by decide +kernel
theorem d_M_clearRow_13 : decode b_M_clearRow 13 = .ok (.iastore, 1) := by decide +kernel
theorem d_M_clearRow_14 : decode b_M_clearRow 14 = .ok (.aload_n 0, 1) := by decide +kernel
theorem d_M_clearRow_15 : decode b_M_clearRow 15 = .ok (.getfield 22, 3) := by decide +kernel
theorem d_M_clearRow_18 : decode b_M_clearRow 18 = .ok (.iload_n 1, 1) := by decide +kernel
theorem d_M_clearRow_19 : decode b_M_clearRow 19 = .ok (.iconst 0, 1) := by decide +kernel
theorem d_M_clearRow_20 : decode b_M_clearRow 20 = .ok (.bastore, 1) := by decide +kernel
theorem d_M_clearRow_21 : decode b_M_clearRow 21 = .ok (.aload_n 0, 1) := by decide +kernel
theorem d_M_clearRow_22 : decode b_M_clearRow 22 = .ok (.getfield 32, 3) := by decide +kernel
theorem d_M_clearRow_25 : decode b_M_clearRow 25 = .ok (.iload_n 1, 1) := by decide +kernel
theorem d_M_clearRow_26 : decode b_M_clearRow 26 = .ok (.iconst 0, 1) := by decide +kernel
theorem d_M_clearRow_27 : decode b_M_clearRow 27 = .ok (.iastore, 1) := by decide +kernel
theorem d_M_clearRow_28 : decode b_M_clearRow 28 = .ok (.return_, 1) := by decide +kernel
theorem d_M_copyRow_0 : decode b_M_copyRow 0 = .ok (.aload_n 0, 1) := by decide +kernel
theorem d_M_copyRow_1 : decode b_M_copyRow 1 = .ok (.getfield 7, 3) := by decide +kernel
theorem d_M_copyRow_4 : decode b_M_copyRow 4 = .ok (.iload_n 2, 1) := by decide +kernel
theorem d_M_copyRow_5 : decode b_M_copyRow 5 = .ok (.aload_n 0, 1) := by decide +kernel
theorem d_M_copyRow_6 : decode b_M_copyRow 6 = .ok (.getfield 7, 3) := by decide +kernel
theorem d_M_copyRow_9 : decode b_M_copyRow 9 = .ok (.iload_n 1, 1) := by decide +kernel
theorem d_M_copyRow_10 : decode b_M_copyRow 10 = .ok (.iaload, 1) := by decide +kernel
theorem d_M_copyRow_11 : decode b_M_copyRow 11 = .ok (.iastore, 1) := by decide +kernel
theorem d_M_copyRow_12 : decode b_M_copyRow 12 = .ok (.aload_n 0, 1) := by decide +kernel
theorem d_M_copyRow_13 : decode b_M_copyRow 13 = .ok (.getfield 13, 3) := by decide +kernel
theorem d_M_copyRow_16 : decode b_M_copyRow 16 = .ok (.iload_n 2, 1) := by decide +kernel
theorem d_M_copyRow_17 : decode b_M_copyRow 17 = .ok (.aload_n 0, 1) := by decide +kernel
theorem d_M_copyRow_18 : decode b_M_copyRow 18 = .ok (.getfield 13, 3) := by decide +kernel
theorem d_M_copyRow_21 : decode b_M_copyRow 21 = .ok (.iload_n 1, 1) := by decide +kernel
theorem d_M_copyRow_22 : decode b_M_copyRow 22 = .ok (.iaload, 1) := by decide +kernel
theorem d_M_copyRow_23 : decode b_M_copyRow 23 = .ok (.iastore, 1) := by decide +kernel
theorem d_M_copyRow_24 : decode b_M_copyRow 24 = .ok (.aload_n 0, 1) := by decide +kernel
theorem d_M_copyRow_25 : decode b_M_copyRow 25 = .ok (.getfield 16, 3) := by decide +kernel
theorem d_M_copyRow_28 : decode b_M_copyRow 28 = .ok (.iload_n 2, 1) := by decide +kernel
theorem d_M_copyRow_29 : decode b_M_copyRow 29 = .ok (.aload_n 0, 1) := by decide +kernel
theorem d_M_copyRow_30 : decode b_M_copyRow 30 = .ok (.getfield 16, 3) := by decide +kernel
theorem d_M_copyRow_33 : decode b_M_copyRow 33 = .ok (.iload_n 1, 1) := by decide +kernel
theorem d_M_copyRow_34 : decode b_M_copyRow 34 = .ok (.iaload, 1) := by decide +kernel
theorem d_M_copyRow_35 : decode b_M_copyRow 35 = .ok (.iastore, 1) := by decide +kernel
theorem d_M_copyRow_36 : decode b_M_copyRow 36 = .ok (.aload_n 0, 1) := by decide +kernel
theorem d_M_copyRow_37 : decode b_M_copyRow 37 = .ok (.getfield 22, 3) := by decide +kernel
theorem d_M_copyRow_40 : decode b_M_copyRow 40 = .ok (.iload_n 2, 1) := by decide +kernel
theorem d_M_copyRow_41 : decode b_M_copyRow 41 = .ok (.aload_n 0, 1) := by decide +kernel
theorem d_M_copyRow_42 : decode b_M_copyRow 42 = .ok (.getfield 22, 3) := by decide +kernel
theorem d_M_copyRow_45 : decode b_M_copyRow 45 = .ok (.iload_n 1, 1) := by decide +kernel
theorem d_M_copyRow_46 : decode b_M_copyRow 46 = .ok (.baload, 1) := by decide +kernel
theorem d_M_copyRow_47 : decode b_M_copyRow 47 = .ok (.bastore, 1) := by decide +kernel
theorem d_M_copyRow_48 : decode b_M_copyRow 48 = .ok (.aload_n 0, 1) := by decide +kernel
theorem d_M_copyRow_49 : decode b_M_copyRow 49 = .ok (.getfield 26, 3) := by decide +kernel
theorem d_M_copyRow_52 : decode b_M_copyRow 52 = .ok (.iload_n 2, 1) := by decide +kernel
theorem d_M_copyRow_53 : decode b_M_copyRow 53 = .ok (.aload_n 0, 1) := by decide +kernel
theorem d_M_copyRow_54 : decode b_M_copyRow 54 = .ok (.getfield 26, 3) := by decide +kernel
theorem d_M_copyRow_57 : decode b_M_copyRow 57 = .ok (.iload_n 1, 1) := by decide +kernel
theorem d_M_copyRow_58 : decode b_M_copyRow 58 = .ok (.iaload, 1) := by decide +kernel
theorem d_M_copyRow_59 : decode b_M_copyRow 59 = .ok (.iastore, 1) := by decide +kernel
theorem d_M_copyRow_60 : decode b_M_copyRow 60 = .ok (.aload_n 0, 1) := by decide +kernel
theorem d_M_copyRow_61 : decode b_M_copyRow 61 = .ok (.getfield 32, 3) := by decide +kernel
theorem d_M_copyRow_64 : decode b_M_copyRow 64 = .ok (.iload_n 2, 1) := by decide +kernel
theorem d_M_copyRow_65 : decode b_M_copyRow 65 = .ok (.aload_n 0, 1) := by decide +kernel
theorem d_M_copyRow_66 : decode b_M_copyRow 66 = .ok (.getfield 32, 3) := by decide +kernel
theorem d_M_copyRow_69 : decode b_M_copyRow 69 = .ok (.iload_n 1, 1) := by decide +kernel
theorem d_M_copyRow_70 : decode b_M_copyRow 70 = .ok (.iaload, 1) := by decide +kernel
theorem d_M_copyRow_71 : decode b_M_copyRow 71 = .ok (.iastore, 1) := by decide +kernel
theorem d_M_copyRow_72 : decode b_M_copyRow 72 = .ok (.iconst 0, 1) := by decide +kernel
theorem d_M_copyRow_73 : decode b_M_copyRow 73 = .ok (.istore_n 3, 1) := by decide +kernel
theorem d_M_copyRow_74 : decode b_M_copyRow 74 = .ok (.iload_n 3, 1) := by decide +kernel
theorem d_M_copyRow_75 : decode b_M_copyRow 75 = .ok (.bipush 100, 2) := by decide +kernel
theorem d_M_copyRow_77 : decode b_M_copyRow 77 = .ok (.if_icmp .ge 31, 3) := by decide +kernel
theorem d_M_copyRow_80 : decode b_M_copyRow 80 = .ok (.aload_n 0, 1) := by decide +kernel
theorem d_M_copyRow_81 : decode b_M_copyRow 81 = .ok (.getfield 19, 3) := by decide +kernel
theorem d_M_copyRow_84 : decode b_M_copyRow 84 = .ok (.bipush 100, 2) := by decide +kernel
theorem d_M_copyRow_86 : decode b_M_copyRow 86 = .ok (.iload_n 2, 1) := by decide +kernel
theorem d_M_copyRow_87 : decode b_M_copyRow 87 = .ok (.imul, 1) := by decide +kernel
theorem d_M_copyRow_88 : decode b_M_copyRow 88 = .ok (.iload_n 3, 1) := by decide +kernel
theorem d_M_copyRow_89 : decode b_M_copyRow 89 = .ok (.iadd, 1) := by decide +kernel
theorem d_M_copyRow_90 : decode b_M_copyRow 90 = .ok (.aload_n 0, 1) := by decide +kernel
theorem d_M_copyRow_91 : decode b_M_copyRow 91 = .ok (.getfield 19, 3) := by decide +kernel
theorem d_M_copyRow_94 : decode b_M_copyRow 94 = .ok (.bipush 100, 2) := by decide +kernel
theorem d_M_copyRow_96 : decode b_M_copyRow 96 = .ok (.iload_n 1, 1) := by decide +kernel
theorem d_M_copyRow_97 : decode b_M_copyRow 97 = .ok (.imul, 1) := by decide +kernel
theorem d_M_copyRow_98 : decode b_M_copyRow 98 = .ok (.iload_n 3, 1) := by decide +kernel
theorem d_M_copyRow_99 : decode b_M_copyRow 99 = .ok (.iadd, 1) := by decide +kernel
theorem d_M_copyRow_100 : decode b_M_copyRow 100 = .ok (.iaload, 1) := by decide +kernel
theorem d_M_copyRow_101 : decode b_M_copyRow 101 = .ok (.iastore, 1) := by decide +kernel
theorem d_M_copyRow_102 : decode b_M_copyRow 102 = .ok (.iinc 3 1, 3) := by decide +kernel
theorem d_M_copyRow_105 : decode b_M_copyRow 105 = .ok (.goto (-31), 3) := by decide +kernel
theorem d_M_copyRow_108 : decode b_M_copyRow 108 = .ok (.iconst 0, 1) := by decide +kernel
theorem d_M_copyRow_109 : decode b_M_copyRow 109 = .ok (.istore_n 3, 1) := by decide +kernel
theorem d_M_copyRow_110 : decode b_M_copyRow 110 = .ok (.iload_n 3, 1) := by decide +kernel
theorem d_M_copyRow_111 : decode b_M_copyRow 111 = .ok (.bipush 120, 2) := by decide +kernel
theorem d_M_copyRow_113 : decode b_M_copyRow 113 = .ok (.if_icmp .ge 31, 3) := by decide +kernel
theorem d_M_copyRow_116 : decode b_M_copyRow 116 = .ok (.aload_n 0, 1) := by decide +kernel
theorem d_M_copyRow_117 : decode b_M_copyRow 117 = .ok (.getfield 29, 3) := by decide +kernel
theorem d_M_copyRow_120 : decode b_M_copyRow 120 = .ok (.bipush 120, 2) := by decide +kernel
theorem d_M_copyRow_122 : decode b_M_copyRow 122 = .ok (.iload_n 2, 1) := by decide +kernel
theorem d_M_copyRow_123 : decode b_M_copyRow 123 = .ok (.imul, 1) := by decide +kernel
theorem d_M_copyRow_124 : decode b_M_copyRow 124 = .ok (.iload_n 3, 1) := by decide +kernel
theorem d_M_copyRow_125 : decode b_M_copyRow 125 = .ok (.iadd, 1) := by decide +kernel
theorem d_M_copyRow_126 : decode b_M_copyRow 126 = .ok (.aload_n 0, 1) := by decide +kernel
theorem d_M_copyRow_127 : decode b_M_copyRow 127 = .ok (.getfield 29, 3) := by decide +kernel
theorem d_M_copyRow_130 : decode b_M_copyRow 130 = .ok (.bipush 120, 2) := by decide +kernel
theorem d_M_copyRow_132 : decode b_M_copyRow 132 = .ok (.iload_n 1, 1) := by decide +kernel
theorem d_M_copyRow_133 : decode b_M_copyRow 133 = .ok (.imul, 1) := by decide +kernel
theorem d_M_copyRow_134 : decode b_M_copyRow 134 = .ok (.iload_n 3, 1) := by decide +kernel
theorem d_M_copyRow_135 : decode b_M_copyRow 135 = .ok (.iadd, 1) := by decide +kernel
theorem d_M_copyRow_136 : decode b_M_copyRow 136 = .ok (.iaload, 1) := by decide +kernel
theorem d_M_copyRow_137 : decode b_M_copyRow 137 = .ok (.iastore, 1) := by decide +kernel
theorem d_M_copyRow_138 : decode b_M_copyRow 138 = .ok (.iinc 3 1, 3) := by decide +kernel
theorem d_M_copyRow_141 : decode b_M_copyRow 141 = .ok (.goto (-31), 3) := by decide +kernel
theorem d_M_copyRow_144 : decode b_M_copyRow 144 = .ok (.iconst 0, 1) := by decide +kernel
theorem d_M_copyRow_145 : decode b_M_copyRow 145 = .ok (.istore_n 3, 1) := by decide +kernel
theorem d_M_copyRow_146 : decode b_M_copyRow 146 = .ok (.iload_n 3, 1) := by decide +kernel
theorem d_M_copyRow_147 : decode b_M_copyRow 147 = .ok (.bipush 12, 2) := by decide +kernel
theorem d_M_copyRow_149 : decode b_M_copyRow 149 = .ok (.if_icmp .ge 75, 3) := by decide +kernel
theorem d_M_copyRow_152 : decode b_M_copyRow 152 = .ok (.aload_n 0, 1) := by decide +kernel
theorem d_M_copyRow_153 : decode b_M_copyRow 153 = .ok (.getfield 35, 3) := by decide +kernel
theorem d_M_copyRow_156 : decode b_M_copyRow 156 = .ok (.bipush 12, 2) := by decide +kernel
theorem d_M_copyRow_158 : decode b_M_copyRow 158 = .ok (.iload_n 2, 1) := by decide +kernel
theorem d_M_copyRow_159 : decode b_M_copyRow 159 = .ok (.imul, 1) := by decide +kernel
theorem d_M_copyRow_160 : decode b_M_copyRow 160 = .ok (.iload_n 3, 1) := by decide +kernel
theorem d_M_copyRow_161 : decode b_M_copyRow 161 = .ok (.iadd, 1) := by decide +kernel
theorem d_M_copyRow_162 : decode b_M_copyRow 162 = .ok (.aload_n 0, 1) := by decide +kernel
theorem d_M_copyRow_163 : decode b_M_copyRow 163 = .ok (.getfield 35, 3) := by decide +kernel
theorem d_M_copyRow_166 : decode b_M_copyRow 166 = .ok (.bipush 12, 2) := by decide +kernel
theorem d_M_copyRow_168 : decode b_M_copyRow 168 = .ok (.iload_n 1, 1) := by decide +kernel
theorem d_M_copyRow_169 : decode b_M_copyRow 169 = .ok (.imul, 1) := by decide +kernel
theorem d_M_copyRow_170 : decode b_M_copyRow 170 = .ok (.iload_n 3, 1) := by decide +kernel
theorem d_M_copyRow_171 : decode b_M_copyRow 171 = .ok (.iadd, 1) := by decide +kernel
theorem d_M_copyRow_172 : decode b_M_copyRow 172 = .ok (.iaload, 1) := by decide +kernel
theorem d_M_copyRow_173 : decode b_M_copyRow 173 = .ok (.iastore, 1) := by decide +kernel
theorem d_M_copyRow_174 : decode b_M_copyRow 174 = .ok (.aload_n 0, 1) := by decide +kernel
theorem d_M_copyRow_175 : decode b_M_copyRow 175 = .ok (.getfield 38, 3) := by decide +kernel
theorem d_M_copyRow_178 : decode b_M_copyRow 178 = .ok (.bipush 12, 2) := by decide +kernel
theorem d_M_copyRow_180 : decode b_M_copyRow 180 = .ok (.iload_n 2, 1) := by decide +kernel
theorem d_M_copyRow_181 : decode b_M_copyRow 181 = .ok (.imul, 1) := by decide +kernel
theorem d_M_copyRow_182 : decode b_M_copyRow 182 = .ok (.iload_n 3, 1) := by decide +kernel
theorem d_M_copyRow_183 : decode b_M_copyRow 183 = .ok (.iadd, 1) := by decide +kernel
theorem d_M_copyRow_184 : decode b_M_copyRow 184 = .ok (.aload_n 0, 1) := by decide +kernel
theorem d_M_copyRow_185 : decode b_M_copyRow 185 = .ok (.getfield 38, 3) := by decide +kernel
theorem d_M_copyRow_188 : decode b_M_copyRow 188 = .ok (.bipush 12, 2) := by decide +kernel
theorem d_M_copyRow_190 : decode b_M_copyRow 190 = .ok (.iload_n 1, 1) := by decide +kernel
theorem d_M_copyRow_191 : decode b_M_copyRow 191 = .ok (.imul, 1) := by decide +kernel
theorem d_M_copyRow_192 : decode b_M_copyRow 192 = .ok (.iload_n 3, 1) := by decide +kernel
theorem d_M_copyRow_193 : decode b_M_copyRow 193 = .ok (.iadd, 1) := by decide +kernel
theorem d_M_copyRow_194 : decode b_M_copyRow 194 = .ok (.iaload, 1) := by decide +kernel
theorem d_M_copyRow_195 : decode b_M_copyRow 195 = .ok (.iastore, 1) := by decide +kernel
theorem d_M_copyRow_196 : decode b_M_copyRow 196 = .ok (.aload_n 0, 1) := by decide +kernel
theorem d_M_copyRow_197 : decode b_M_copyRow 197 = .ok (.getfield 41, 3) := by decide +kernel
theorem d_M_copyRow_200 : decode b_M_copyRow 200 = .ok (.bipush 12, 2) := by decide +kernel
theorem d_M_copyRow_202 : decode b_M_copyRow 202 = .ok (.iload_n 2, 1) := by decide +kernel
theorem d_M_copyRow_203 : decode b_M_copyRow 203 = .ok (.imul, 1) := by decide +kernel
theorem d_M_copyRow_204 : decode b_M_copyRow 204 = .ok (.iload_n 3, 1) := by decide +kernel
theorem d_M_copyRow_205 : decode b_M_copyRow 205 = .ok (.iadd, 1) := by decide +kernel
theorem d_M_copyRow_206 : decode b_M_copyRow 206 = .ok (.aload_n 0, 1) := by decide +kernel
theorem d_M_copyRow_207 : decode b_M_copyRow 207 = .ok (.getfield 41, 3) := by decide +kernel
theorem d_M_copyRow_210 : decode b_M_copyRow 210 = .ok (.bipush 12, 2) := by decide +kernel
theorem d_M_copyRow_212 : decode b_M_copyRow 212 = .ok (.iload_n 1, 1) := by decide +kernel
theorem d_M_copyRow_213 : decode b_M_copyRow 213 = .ok (.imul, 1) := by decide +kernel
theorem d_M_copyRow_214 : decode b_M_copyRow 214 = .ok (.iload_n 3, 1) := by decide +kernel
theorem d_M_copyRow_215 : decode b_M_copyRow 215 = .ok (.iadd, 1) := by decide +kernel
theorem d_M_copyRow_216 : decode b_M_copyRow 216 = .ok (.iaload, 1) := by decide +kernel
theorem d_M_copyRow_217 : decode b_M_copyRow 217 = .ok (.iastore, 1) := by decide +kernel
theorem d_M_copyRow_218 : decode b_M_copyRow 218 = .ok (.iinc 3 1, 3) := by decide +kernel
theorem d_M_copyRow_221 : decode b_M_copyRow 221 = .ok (.goto (-75), 3) := by decide +kernel
theorem d_M_copyRow_224 : decode b_M_copyRow 224 = .ok (.return_, 1) := by decide +kernel
theorem d_M_find_0 : decode b_M_find 0 = .ok (.iconst 0, 1) := by decide +kernel
theorem d_M_find_1 : decode b_M_find 1 = .ok (.istore 4, 2) := by decide +kernel
theorem d_M_find_3 : decode b_M_find 3 = .ok (.iload 4, 2) := by decide +kernel
theorem d_M_find_5 : decode b_M_find 5 = .ok (.aload_n 0, 1) := by decide +kernel
theorem d_M_find_6 : decode b_M_find 6 = .ok (.getfield 85, 3) := by decide +kernel
theorem d_M_find_9 : decode b_M_find 9 = .ok (.if_icmp .ge 35, 3) := by decide +kernel
theorem d_M_find_12 : decode b_M_find 12 = .ok (.aload_n 0, 1) := by decide +kernel
theorem d_M_find_13 : decode b_M_find 13 = .ok (.getfield 50, 3) := by decide +kernel
theorem d_M_find_16 : decode b_M_find 16 = .ok (.iload 4, 2) := by decide +kernel
theorem d_M_find_18 : decode b_M_find 18 = .ok (.laload, 1) := by decide +kernel
theorem d_M_find_19 : decode b_M_find 19 = .ok (.lload_n 1, 1) := by decide +kernel
theorem d_M_find_20 : decode b_M_find 20 = .ok (.lcmp, 1) := by decide +kernel
theorem d_M_find_21 : decode b_M_find 21 = .ok (.ifCond .ne 17, 3) := by decide +kernel
theorem d_M_find_24 : decode b_M_find 24 = .ok (.aload_n 0, 1) := by decide +kernel
theorem d_M_find_25 : decode b_M_find 25 = .ok (.getfield 54, 3) := by decide +kernel
theorem d_M_find_28 : decode b_M_find 28 = .ok (.iload 4, 2) := by decide +kernel
theorem d_M_find_30 : decode b_M_find 30 = .ok (.iaload, 1) := by decide +kernel
theorem d_M_find_31 : decode b_M_find 31 = .ok (.iload_n 3, 1) := by decide +kernel
theorem d_M_find_32 : decode b_M_find 32 = .ok (.if_icmp .ne 6, 3) := by decide +kernel
theorem d_M_find_35 : decode b_M_find 35 = .ok (.iload 4, 2) := by decide +kernel
theorem d_M_find_37 : decode b_M_find 37 = .ok (.ireturn, 1) := by decide +kernel
theorem d_M_find_38 : decode b_M_find 38 = .ok (.iinc 4 1, 3) := by decide +kernel
theorem d_M_find_41 : decode b_M_find 41 = .ok (.goto (-38), 3) := by decide +kernel
theorem d_M_find_44 : decode b_M_find 44 = .ok (.iconst (-1), 1) := by decide +kernel
theorem d_M_find_45 : decode b_M_find 45 = .ok (.ireturn, 1) := by decide +kernel
theorem d_M_set_0 : decode b_M_set 0 = .ok (.aload_n 0, 1) := by decide +kernel
theorem d_M_set_1 : decode b_M_set 1 = .ok (.lload_n 1, 1) := by decide +kernel
theorem d_M_set_2 : decode b_M_set 2 = .ok (.iload_n 3, 1) := by decide +kernel
theorem d_M_set_3 : decode b_M_set 3 = .ok (.invokevirtual 88, 3) := by decide +kernel
theorem d_M_set_6 : decode b_M_set 6 = .ok (.istore 6, 2) := by decide +kernel
theorem d_M_set_8 : decode b_M_set 8 = .ok (.iload 6, 2) := by decide +kernel
theorem d_M_set_10 : decode b_M_set 10 = .ok (.ifCond .ge 35, 3) := by decide +kernel
theorem d_M_set_13 : decode b_M_set 13 = .ok (.aload_n 0, 1) := by decide +kernel
theorem d_M_set_14 : decode b_M_set 14 = .ok (.getfield 85, 3) := by decide +kernel
theorem d_M_set_17 : decode b_M_set 17 = .ok (.istore 6, 2) := by decide +kernel
theorem d_M_set_19 : decode b_M_set 19 = .ok (.aload_n 0, 1) := by decide +kernel
theorem d_M_set_20 : decode b_M_set 20 = .ok (.dup, 1) := by decide +kernel
theorem d_M_set_21 : decode b_M_set 21 = .ok (.getfield 85, 3) := by decide +kernel
theorem d_M_set_24 : decode b_M_set 24 = .ok (.iconst 1, 1) := by decide +kernel
theorem d_M_set_25 : decode b_M_set 25 = .ok (.iadd, 1) := by decide +kernel
theorem d_M_set_26 : decode b_M_set 26 = .ok (.putfield 85, 3) := by decide +kernel
theorem d_M_set_29 : decode b_M_set 29 = .ok (.aload_n 0, 1) := by decide +kernel
theorem d_M_set_30 : decode b_M_set 30 = .ok (.getfield 50, 3) := by decide +kernel
theorem d_M_set_33 : decode b_M_set 33 = .ok (.iload 6, 2) := by decide +kernel
theorem d_M_set_35 : decode b_M_set 35 = .ok (.lload_n 1, 1) := by decide +kernel
theorem d_M_set_36 : decode b_M_set 36 = .ok (.lastore, 1) := by decide +kernel
theorem d_M_set_37 : decode b_M_set 37 = .ok (.aload_n 0, 1) := by decide +kernel
theorem d_M_set_38 : decode b_M_set 38 = .ok (.getfield 54, 3) := by decide +kernel
theorem d_M_set_41 : decode b_M_set 41 = .ok (.iload 6, 2) := by decide +kernel
theorem d_M_set_43 : decode b_M_set 43 = .ok (.iload_n 3, 1) := by decide +kernel
theorem d_M_set_44 : decode b_M_set 44 = .ok (.iastore, 1) := by decide +kernel
theorem d_M_set_45 : decode b_M_set 45 = .ok (.aload_n 0, 1) := by decide +kernel
theorem d_M_set_46 : decode b_M_set 46 = .ok (.getfield 57, 3) := by decide +kernel
theorem d_M_set_49 : decode b_M_set 49 = .ok (.iload 6, 2) := by decide +kernel
theorem d_M_set_51 : decode b_M_set 51 = .ok (.iload 4, 2) := by decide +kernel
theorem d_M_set_53 : decode b_M_set 53 = .ok (.iastore, 1) := by decide +kernel
theorem d_M_set_54 : decode b_M_set 54 = .ok (.aload_n 0, 1) := by decide +kernel
theorem d_M_set_55 : decode b_M_set 55 = .ok (.getfield 60, 3) := by decide +kernel
theorem d_M_set_58 : decode b_M_set 58 = .ok (.iload 6, 2) := by decide +kernel
theorem d_M_set_60 : decode b_M_set 60 = .ok (.iload 5, 2) := by decide +kernel
theorem d_M_set_62 : decode b_M_set 62 = .ok (.iastore, 1) := by decide +kernel
theorem d_M_set_63 : decode b_M_set 63 = .ok (.return_, 1) := by decide +kernel
theorem d_M_unset_0 : decode b_M_unset 0 = .ok (.aload_n 0, 1) := by decide +kernel
theorem d_M_unset_1 : decode b_M_unset 1 = .ok (.lload_n 1, 1) := by decide +kernel
theorem d_M_unset_2 : decode b_M_unset 2 = .ok (.iload_n 3, 1) := by decide +kernel
theorem d_M_unset_3 : decode b_M_unset 3 = .ok (.invokevirtual 88, 3) := by decide +kernel
theorem d_M_unset_6 : decode b_M_unset 6 = .ok (.istore 4, 2) := by decide +kernel
theorem d_M_unset_8 : decode b_M_unset 8 = .ok (.iload 4, 2) := by decide +kernel
theorem d_M_unset_10 : decode b_M_unset 10 = .ok (.ifCond .ge 4, 3) := by decide +kernel
theorem d_M_unset_13 : decode b_M_unset 13 = .ok (.return_, 1) := by decide +kernel
theorem d_M_unset_14 : decode b_M_unset 14 = .ok (.aload_n 0, 1) := by decide +kernel
theorem d_M_unset_15 : decode b_M_unset 15 = .ok (.dup, 1) := by decide +kernel
theorem d_M_unset_16 : decode b_M_unset 16 = .ok (.getfield 85, 3) := by decide +kernel
theorem d_M_unset_19 : decode b_M_unset 19 = .ok (.iconst 1, 1) := by decide +kernel
theorem d_M_unset_20 : decode b_M_unset 20 = .ok (.isub, 1) := by decide +kernel
theorem d_M_unset_21 : decode b_M_unset 21 = .ok (.putfield 85, 3) := by decide +kernel
theorem d_M_unset_24 : decode b_M_unset 24 = .ok (.aload_n 0, 1) := by decide +kernel
theorem d_M_unset_25 : decode b_M_unset 25 = .ok (.getfield 50, 3) := by decide +kernel
theorem d_M_unset_28 : decode b_M_unset 28 = .ok (.iload 4, 2) := by decide +kernel
theorem d_M_unset_30 : decode b_M_unset 30 = .ok (.aload_n 0, 1) := by decide +kernel
theorem d_M_unset_31 : decode b_M_unset 31 = .ok (.getfield 50, 3) := by decide +kernel
theorem d_M_unset_34 : decode b_M_unset 34 = .ok (.aload_n 0, 1) := by decide +kernel
theorem d_M_unset_35 : decode b_M_unset 35 = .ok (.getfield 85, 3) := by decide +kernel
theorem d_M_unset_38 : decode b_M_unset 38 = .ok (.laload, 1) := by decide +kernel
theorem d_M_unset_39 : decode b_M_unset 39 = .ok (.lastore, 1) := by decide +kernel
theorem d_M_unset_40 : decode b_M_unset 40 = .ok (.aload_n 0, 1) := by decide +kernel
theorem d_M_unset_41 : decode b_M_unset 41 = .ok (.getfield 54, 3) := by decide +kernel
theorem d_M_unset_44 : decode b_M_unset 44 = .ok (.iload 4, 2) := by decide +kernel
theorem d_M_unset_46 : decode b_M_unset 46 = .ok (.aload_n 0, 1) := by decide +kernel
theorem d_M_unset_47 : decode b_M_unset 47 = .ok (.getfield 54, 3) := by decide +kernel
theorem d_M_unset_50 : decode b_M_unset 50 = .ok (.aload_n 0, 1) := by decide +kernel
theorem d_M_unset_51 : decode b_M_unset 51 = .ok (.getfield 85, 3) := by decide +kernel
theorem d_M_unset_54 : decode b_M_unset 54 = .ok (.iaload, 1) := by decide +kernel
theorem d_M_unset_55 : decode b_M_unset 55 = .ok (.iastore, 1) := by decide +kernel
theorem d_M_unset_56 : decode b_M_unset 56 = .ok (.aload_n 0, 1) := by decide +kernel
theorem d_M_unset_57 : decode b_M_unset 57 = .ok (.getfield 57, 3) := by decide +kernel
theorem d_M_unset_60 : decode b_M_unset 60 = .ok (.iload 4, 2) := by decide +kernel
theorem d_M_unset_62 : decode b_M_unset 62 = .ok (.aload_n 0, 1) := by decide +kernel
theorem d_M_unset_63 : decode b_M_unset 63 = .ok (.getfield 57, 3) := by decide +kernel
theorem d_M_unset_66 : decode b_M_unset 66 = .ok (.aload_n 0, 1) := by decide +kernel
theorem d_M_unset_67 : decode b_M_unset 67 = .ok (.getfield 85, 3) := by decide +kernel
theorem d_M_unset_70 : decode b_M_unset 70 = .ok (.iaload, 1) := by decide +kernel
theorem d_M_unset_71 : decode b_M_unset 71 = .ok (.iastore, 1) := by decide +kernel
theorem d_M_unset_72 : decode b_M_unset 72 = .ok (.aload_n 0, 1) := by decide +kernel
theorem d_M_unset_73 : decode b_M_unset 73 = .ok (.getfield 60, 3) := by decide +kernel
theorem d_M_unset_76 : decode b_M_unset 76 = .ok (.iload 4, 2) := by decide +kernel
theorem d_M_unset_78 : decode b_M_unset 78 = .ok (.aload_n 0, 1) := by decide +kernel
theorem d_M_unset_79 : decode b_M_unset 79 = .ok (.getfield 60, 3) := by decide +kernel
theorem d_M_unset_82 : decode b_M_unset 82 = .ok (.aload_n 0, 1) := by decide +kernel
theorem d_M_unset_83 : decode b_M_unset 83 = .ok (.getfield 85, 3) := by decide +kernel
theorem d_M_unset_86 : decode b_M_unset 86 = .ok (.iaload, 1) := by decide +kernel
theorem d_M_unset_87 : decode b_M_unset 87 = .ok (.iastore, 1) := by decide +kernel
theorem d_M_unset_88 : decode b_M_unset 88 = .ok (.return_, 1) := by decide +kernel
theorem d_M_live_0 : decode b_M_live 0 = .ok (.iconst 0, 1) := by decide +kernel
theorem d_M_live_1 : decode b_M_live 1 = .ok (.istore_n 3, 1) := by decide +kernel
theorem d_M_live_2 : decode b_M_live 2 = .ok (.iload_n 3, 1) := by decide +kernel
theorem d_M_live_3 : decode b_M_live 3 = .ok (.aload_n 0, 1) := by decide +kernel
theorem d_M_live_4 : decode b_M_live 4 = .ok (.getfield 85, 3) := by decide +kernel
theorem d_M_live_7 : decode b_M_live 7 = .ok (.if_icmp .ge 31, 3) := by decide +kernel
theorem d_M_live_10 : decode b_M_live 10 = .ok (.aload_n 0, 1) := by decide +kernel
theorem d_M_live_11 : decode b_M_live 11 = .ok (.getfield 57, 3) := by decide +kernel
theorem d_M_live_14 : decode b_M_live 14 = .ok (.iload_n 3, 1) := by decide +kernel
theorem d_M_live_15 : decode b_M_live 15 = .ok (.iaload, 1) := by decide +kernel
theorem d_M_live_16 : decode b_M_live 16 = .ok (.iload_n 1, 1) := by decide +kernel
theorem d_M_live_17 : decode b_M_live 17 = .ok (.if_icmp .ne 15, 3) := by decide +kernel
theorem d_M_live_20 : decode b_M_live 20 = .ok (.aload_n 0, 1) := by decide +kernel
theorem d_M_live_21 : decode b_M_live 21 = .ok (.getfield 60, 3) := by decide +kernel
theorem d_M_live_24 : decode b_M_live 24 = .ok (.iload_n 3, 1) := by decide +kernel
theorem d_M_live_25 : decode b_M_live 25 = .ok (.iaload, 1) := by decide +kernel
theorem d_M_live_26 : decode b_M_live 26 = .ok (.iload_n 2, 1) := by decide +kernel
theorem d_M_live_27 : decode b_M_live 27 = .ok (.if_icmp .ne 5, 3) := by decide +kernel
theorem d_M_live_30 : decode b_M_live 30 = .ok (.iload_n 3, 1) := by decide +kernel
theorem d_M_live_31 : decode b_M_live 31 = .ok (.ireturn, 1) := by decide +kernel
theorem d_M_live_32 : decode b_M_live 32 = .ok (.iinc 3 1, 3) := by decide +kernel
theorem d_M_live_35 : decode b_M_live 35 = .ok (.goto (-33), 3) := by decide +kernel
theorem d_M_live_38 : decode b_M_live 38 = .ok (.iconst (-1), 1) := by decide +kernel
theorem d_M_live_39 : decode b_M_live 39 = .ok (.ireturn, 1) := by decide +kernel
theorem d_M_rowOf_0 : decode b_M_rowOf 0 = .ok (.iconst 0, 1) := by decide +kernel
theorem d_M_rowOf_1 : decode b_M_rowOf 1 = .ok (.istore_n 2, 1) := by decide +kernel
theorem d_M_rowOf_2 : decode b_M_rowOf 2 = .ok (.aload_n 0, 1) := by decide +kernel
theorem d_M_rowOf_3 : decode b_M_rowOf 3 = .ok (.getfield 7, 3) := by decide +kernel
theorem d_M_rowOf_6 : decode b_M_rowOf 6 = .ok (.iload_n 2, 1) := by decide +kernel
theorem d_M_rowOf_7 : decode b_M_rowOf 7 = .ok (.iaload, 1) := by decide +kernel
theorem d_M_rowOf_8 : decode b_M_rowOf 8 = .ok (.iload_n 1, 1) := by decide +kernel
theorem d_M_rowOf_9 : decode b_M_rowOf 9 = .ok (.if_icmp .eq 9, 3) := by decide +kernel
theorem d_M_rowOf_12 : decode b_M_rowOf 12 = .ok (.iinc 2 1, 3) := by decide +kernel
theorem d_M_rowOf_15 : decode b_M_rowOf 15 = .ok (.goto (-13), 3) := by decide +kernel
theorem d_M_rowOf_18 : decode b_M_rowOf 18 = .ok (.iload_n 2, 1) := by decide +kernel
theorem d_M_rowOf_19 : decode b_M_rowOf 19 = .ok (.ireturn, 1) := by decide +kernel
theorem d_M_letter_0 : decode b_M_letter 0 = .ok (.iload_n 2, 1) := by decide +kernel
theorem d_M_letter_1 : decode b_M_letter 1 = .ok (.aload_n 0, 1) := by decide +kernel
theorem d_M_letter_2 : decode b_M_letter 2 = .ok (.getfield 54, 3) := by decide +kernel
theorem d_M_letter_5 : decode b_M_letter 5 = .ok (.iload_n 1, 1) := by decide +kernel
theorem d_M_letter_6 : decode b_M_letter 6 = .ok (.iaload, 1) := by decide +kernel
theorem d_M_letter_7 : decode b_M_letter 7 = .ok (.if_icmp .ge 31, 3) := by decide +kernel
theorem d_M_letter_10 : decode b_M_letter 10 = .ok (.aload_n 0, 1) := by decide +kernel
theorem d_M_letter_11 : decode b_M_letter 11 = .ok (.getfield 50, 3) := by decide +kernel
theorem d_M_letter_14 : decode b_M_letter 14 = .ok (.iload_n 1, 1) := by decide +kernel
theorem d_M_letter_15 : decode b_M_letter 15 = .ok (.laload, 1) := by decide +kernel
theorem d_M_letter_16 : decode b_M_letter 16 = .ok (.bipush 8, 2) := by decide +kernel
theorem d_M_letter_18 : decode b_M_letter 18 = .ok (.aload_n 0, 1) := by decide +kernel
theorem d_M_letter_19 : decode b_M_letter 19 = .ok (.getfield 54, 3) := by decide +kernel
theorem d_M_letter_22 : decode b_M_letter 22 = .ok (.iload_n 1, 1) := by decide +kernel
theorem d_M_letter_23 : decode b_M_letter 23 = .ok (.iaload, 1) := by decide +kernel
theorem d_M_letter_24 : decode b_M_letter 24 = .ok (.iconst 1, 1) := by decide +kernel
theorem d_M_letter_25 : decode b_M_letter 25 = .ok (.isub, 1) := by decide +kernel
theorem d_M_letter_26 : decode b_M_letter 26 = .ok (.iload_n 2, 1) := by decide +kernel
theorem d_M_letter_27 : decode b_M_letter 27 = .ok (.isub, 1) := by decide +kernel
theorem d_M_letter_28 : decode b_M_letter 28 = .ok (.imul, 1) := by decide +kernel
theorem d_M_letter_29 : decode b_M_letter 29 = .ok (.lshr, 1) := by decide +kernel
theorem d_M_letter_30 : decode b_M_letter 30 = .ok (.ldc2_w 79, 3) := by decide +kernel
theorem d_M_letter_33 : decode b_M_letter 33 = .ok (.land, 1) := by decide +kernel
theorem d_M_letter_34 : decode b_M_letter 34 = .ok (.l2i, 1) := by decide +kernel
theorem d_M_letter_35 : decode b_M_letter 35 = .ok (.goto 4, 3) := by decide +kernel
theorem d_M_letter_38 : decode b_M_letter 38 = .ok (.iconst (-1), 1) := by decide +kernel
theorem d_M_letter_39 : decode b_M_letter 39 = .ok (.ireturn, 1) := by decide +kernel
theorem d_M_ordered_0 : decode b_M_ordered 0 = .ok (.iconst 0, 1) := by decide +kernel
theorem d_M_ordered_1 : decode b_M_ordered 1 = .ok (.istore_n 2, 1) := by decide +kernel
theorem d_M_ordered_2 : decode b_M_ordered 2 = .ok (.iload_n 2, 1) := by decide +kernel
theorem d_M_ordered_3 : decode b_M_ordered 3 = .ok (.aload_n 0, 1) := by decide +kernel
theorem d_M_ordered_4 : decode b_M_ordered 4 = .ok (.getfield 85, 3) := by decide +kernel
theorem d_M_ordered_7 : decode b_M_ordered 7 = .ok (.if_icmp .ge 54, 3) := by decide +kernel
theorem d_M_ordered_10 : decode b_M_ordered 10 = .ok (.iconst 0, 1) := by decide +kernel
theorem d_M_ordered_11 : decode b_M_ordered 11 = .ok (.istore_n 3, 1) := by decide +kernel
theorem d_M_ordered_12 : decode b_M_ordered 12 = .ok (.iconst 0, 1) := by decide +kernel
theorem d_M_ordered_13 : decode b_M_ordered 13 = .ok (.istore 4, 2) := by decide +kernel
theorem d_M_ordered_15 : decode b_M_ordered 15 = .ok (.iload 4, 2) := by decide +kernel
theorem d_M_ordered_17 : decode b_M_ordered 17 = .ok (.aload_n 0, 1) := by decide +kernel
theorem d_M_ordered_18 : decode b_M_ordered 18 = .ok (.getfield 85, 3) := by decide +kernel
theorem d_M_ordered_21 : decode b_M_ordered 21 = .ok (.if_icmp .ge 27, 3) := by decide +kernel
theorem d_M_ordered_24 : decode b_M_ordered 24 = .ok (.aload_n 0, 1) := by decide +kernel
theorem d_M_ordered_25 : decode b_M_ordered 25 = .ok (.iload 4, 2) := by decide +kernel
theorem d_M_ordered_27 : decode b_M_ordered 27 = .ok (.iload_n 2, 1) := by decide +kernel
theorem d_M_ordered_28 : decode b_M_ordered 28 = .ok (.invokevirtual 92, 3) := by decide +kernel
theorem d_M_ordered_31 : decode b_M_ordered 31 = .ok (.ifCond .eq 9, 3) := by decide +kernel
theorem d_M_ordered_34 : decode b_M_ordered 34 = .ok (.iload_n 3, 1) := by decide +kernel
theorem d_M_ordered_35 : decode b_M_ordered 35 = .ok (.iconst 1, 1) := by decide +kernel
theorem d_M_ordered_36 : decode b_M_ordered 36 = .ok (.iadd, 1) := by decide +kernel
theorem d_M_ordered_37 : decode b_M_ordered 37 = .ok (.goto 4, 3) := by decide +kernel
theorem d_M_ordered_40 : decode b_M_ordered 40 = .ok (.iload_n 3, 1) := by decide +kernel
theorem d_M_ordered_41 : decode b_M_ordered 41 = .ok (.istore_n 3, 1) := by decide +kernel
theorem d_M_ordered_42 : decode b_M_ordered 42 = .ok (.iinc 4 1, 3) := by decide +kernel
theorem d_M_ordered_45 : decode b_M_ordered 45 = .ok (.goto (-30), 3) := by decide +kernel
theorem d_M_ordered_48 : decode b_M_ordered 48 = .ok (.iload_n 3, 1) := by decide +kernel
theorem d_M_ordered_49 : decode b_M_ordered 49 = .ok (.iload_n 1, 1) := by decide +kernel
theorem d_M_ordered_50 : decode b_M_ordered 50 = .ok (.if_icmp .ne 5, 3) := by decide +kernel
theorem d_M_ordered_53 : decode b_M_ordered 53 = .ok (.iload_n 2, 1) := by decide +kernel
theorem d_M_ordered_54 : decode b_M_ordered 54 = .ok (.ireturn, 1) := by decide +kernel
theorem d_M_ordered_55 : decode b_M_ordered 55 = .ok (.iinc 2 1, 3) := by decide +kernel
theorem d_M_ordered_58 : decode b_M_ordered 58 = .ok (.goto (-56), 3) := by decide +kernel
theorem d_M_ordered_61 : decode b_M_ordered 61 = .ok (.iconst (-1), 1) := by decide +kernel
theorem d_M_ordered_62 : decode b_M_ordered 62 = .ok (.ireturn, 1) := by decide +kernel
theorem d_M_comesBefore_0 : decode b_M_comesBefore 0 = .ok (.iconst 0, 1) := by decide +kernel
theorem d_M_comesBefore_1 : decode b_M_comesBefore 1 = .ok (.istore_n 3, 1) := by decide +kernel
theorem d_M_comesBefore_2 : decode b_M_comesBefore 2 = .ok (.iload_n 3, 1) := by decide +kernel
theorem d_M_comesBefore_3 : decode b_M_comesBefore 3 = .ok (.iconst 4, 1) := by decide +kernel
theorem d_M_comesBefore_4 : decode b_M_comesBefore 4 = .ok (.if_icmp .ge 45, 3) := by decide +kernel
theorem d_M_comesBefore_7 : decode b_M_comesBefore 7 = .ok (.aload_n 0, 1) := by decide +kernel
theorem d_M_comesBefore_8 : decode b_M_comesBefore 8 = .ok (.iload_n 1, 1) := by decide +kernel
theorem d_M_comesBefore_9 : decode b_M_comesBefore 9 = .ok (.iload_n 3, 1) := by decide +kernel
theorem d_M_comesBefore_10 : decode b_M_comesBefore 10 = .ok (.invokevirtual 96, 3) := by decide +kernel
theorem d_M_comesBefore_13 : decode b_M_comesBefore 13 = .ok (.aload_n 0, 1) := by decide +kernel
theorem d_M_comesBefore_14 : decode b_M_comesBefore 14 = .ok (.iload_n 2, 1) := by decide +kernel
theorem d_M_comesBefore_15 : decode b_M_comesBefore 15 = .ok (.iload_n 3, 1) := by decide +kernel
theorem d_M_comesBefore_16 : decode b_M_comesBefore 16 = .ok (.invokevirtual 96, 3) := by decide +kernel
theorem d_M_comesBefore_19 : decode b_M_comesBefore 19 = .ok (.if_icmp .eq 24, 3) := by decide +kernel
theorem d_M_comesBefore_22 : decode b_M_comesBefore 22 = .ok (.aload_n 0, 1) := by decide +kernel
theorem d_M_comesBefore_23 : decode b_M_comesBefore 23 = .ok (.iload_n 1, 1) := by decide +kernel
theorem d_M_comesBefore_24 : decode b_M_comesBefore 24 = .ok (.iload_n 3, 1) := by decide +kernel
theorem d_M_comesBefore_25 : decode b_M_comesBefore 25 = .ok (.invokevirtual 96, 3) := by decide +kernel
theorem d_M_comesBefore_28 : decode b_M_comesBefore 28 = .ok (.aload_n 0, 1) := by decide +kernel
theorem d_M_comesBefore_29 : decode b_M_comesBefore 29 = .ok (.iload_n 2, 1) := by decide +kernel
theorem d_M_comesBefore_30 : decode b_M_comesBefore 30 = .ok (.iload_n 3, 1) := by decide +kernel
theorem d_M_comesBefore_31 : decode b_M_comesBefore 31 = .ok (.invokevirtual 96, 3) := by decide +kernel
theorem d_M_comesBefore_34 : decode b_M_comesBefore 34 = .ok (.if_icmp .ge 7, 3) := by decide +kernel
theorem d_M_comesBefore_37 : decode b_M_comesBefore 37 = .ok (.iconst 1, 1) := by decide +kernel
theorem d_M_comesBefore_38 : decode b_M_comesBefore 38 = .ok (.goto 4, 3) := by decide +kernel
theorem d_M_comesBefore_41 : decode b_M_comesBefore 41 = .ok (.iconst 0, 1) := by decide +kernel
theorem d_M_comesBefore_42 : decode b_M_comesBefore 42 = .ok (.ireturn, 1) := by decide +kernel
theorem d_M_comesBefore_43 : decode b_M_comesBefore 43 = .ok (.iinc 3 1, 3) := by decide +kernel
theorem d_M_comesBefore_46 : decode b_M_comesBefore 46 = .ok (.goto (-44), 3) := by decide +kernel
theorem d_M_comesBefore_49 : decode b_M_comesBefore 49 = .ok (.iconst 0, 1) := by decide +kernel
theorem d_M_comesBefore_50 : decode b_M_comesBefore 50 = .ok (.ireturn, 1) := by decide +kernel
theorem d_M_full_0 : decode b_M_full 0 = .ok (.aload_n 0, 1) := by decide +kernel
theorem d_M_full_1 : decode b_M_full 1 = .ok (.getfield 99, 3) := by decide +kernel
theorem d_M_full_4 : decode b_M_full 4 = .ok (.bipush 6, 2) := by decide +kernel
theorem d_M_full_6 : decode b_M_full 6 = .ok (.if_icmp .ne 27, 3) := by decide +kernel
theorem d_M_full_9 : decode b_M_full 9 = .ok (.aload_n 0, 1) := by decide +kernel
theorem d_M_full_10 : decode b_M_full 10 = .ok (.getfield 102, 3) := by decide +kernel
theorem d_M_full_13 : decode b_M_full 13 = .ok (.ifCond .eq 16, 3) := by decide +kernel
theorem d_M_full_16 : decode b_M_full 16 = .ok (.aload_n 0, 1) := by decide +kernel
theorem d_M_full_17 : decode b_M_full 17 = .ok (.getfield 13, 3) := by decide +kernel
theorem d_M_full_20 : decode b_M_full 20 = .ok (.iconst 5, 1) := by decide +kernel
theorem d_M_full_21 : decode b_M_full 21 = .ok (.iaload, 1) := by decide +kernel
theorem d_M_full_22 : decode b_M_full 22 = .ok (.iload_n 1, 1) := by decide +kernel
theorem d_M_full_23 : decode b_M_full 23 = .ok (.iadd, 1) := by decide +kernel
theorem d_M_full_24 : decode b_M_full 24 = .ok (.bipush 100, 2) := by decide +kernel
theorem d_M_full_26 : decode b_M_full 26 = .ok (.if_icmp .le 7, 3) := by decide +kernel
theorem d_M_full_29 : decode b_M_full 29 = .ok (.iconst 1, 1) := by decide +kernel
theorem d_M_full_30 : decode b_M_full 30 = .ok (.goto 4, 3) := by decide +kernel
theorem d_M_full_33 : decode b_M_full 33 = .ok (.iconst 0, 1) := by decide +kernel
theorem d_M_full_34 : decode b_M_full 34 = .ok (.ireturn, 1) := by decide +kernel
theorem d_M_putByte_0 : decode b_M_putByte 0 = .ok (.aload_n 0, 1) := by decide +kernel
theorem d_M_putByte_1 : decode b_M_putByte 1 = .ok (.getfield 19, 3) := by decide +kernel
theorem d_M_putByte_4 : decode b_M_putByte 4 = .ok (.bipush 100, 2) := by decide +kernel
theorem d_M_putByte_6 : decode b_M_putByte 6 = .ok (.iload_n 1, 1) := by decide +kernel
theorem d_M_putByte_7 : decode b_M_putByte 7 = .ok (.imul, 1) := by decide +kernel
theorem d_M_putByte_8 : decode b_M_putByte 8 = .ok (.aload_n 0, 1) := by decide +kernel
theorem d_M_putByte_9 : decode b_M_putByte 9 = .ok (.getfield 13, 3) := by decide +kernel
theorem d_M_putByte_12 : decode b_M_putByte 12 = .ok (.iload_n 1, 1) := by decide +kernel
theorem d_M_putByte_13 : decode b_M_putByte 13 = .ok (.iaload, 1) := by decide +kernel
theorem d_M_putByte_14 : decode b_M_putByte 14 = .ok (.iadd, 1) := by decide +kernel
theorem d_M_putByte_15 : decode b_M_putByte 15 = .ok (.iload_n 2, 1) := by decide +kernel
theorem d_M_putByte_16 : decode b_M_putByte 16 = .ok (.iastore, 1) := by decide +kernel
theorem d_M_putByte_17 : decode b_M_putByte 17 = .ok (.aload_n 0, 1) := by decide +kernel
theorem d_M_putByte_18 : decode b_M_putByte 18 = .ok (.getfield 13, 3) := by decide +kernel
theorem d_M_putByte_21 : decode b_M_putByte 21 = .ok (.iload_n 1, 1) := by decide +kernel
theorem d_M_putByte_22 : decode b_M_putByte 22 = .ok (.dup2, 1) := by decide +kernel
theorem d_M_putByte_23 : decode b_M_putByte 23 = .ok (.iaload, 1) := by decide +kernel
theorem d_M_putByte_24 : decode b_M_putByte 24 = .ok (.iconst 1, 1) := by decide +kernel
theorem d_M_putByte_25 : decode b_M_putByte 25 = .ok (.iadd, 1) := by decide +kernel
theorem d_M_putByte_26 : decode b_M_putByte 26 = .ok (.iastore, 1) := by decide +kernel
theorem d_M_putByte_27 : decode b_M_putByte 27 = .ok (.return_, 1) := by decide +kernel
theorem d_M_putNumber_0 : decode b_M_putNumber 0 = .ok (.iload 4, 2) := by decide +kernel
theorem d_M_putNumber_2 : decode b_M_putNumber 2 = .ok (.iconst 1, 1) := by decide +kernel
theorem d_M_putNumber_3 : decode b_M_putNumber 3 = .ok (.isub, 1) := by decide +kernel
theorem d_M_putNumber_4 : decode b_M_putNumber 4 = .ok (.istore 5, 2) := by decide +kernel
theorem d_M_putNumber_6 : decode b_M_putNumber 6 = .ok (.iload 5, 2) := by decide +kernel
theorem d_M_putNumber_8 : decode b_M_putNumber 8 = .ok (.ifCond .lt 26, 3) := by decide +kernel
theorem d_M_putNumber_11 : decode b_M_putNumber 11 = .ok (.aload_n 0, 1) := by decide +kernel
theorem d_M_putNumber_12 : decode b_M_putNumber 12 = .ok (.iload_n 1, 1) := by decide +kernel
theorem d_M_putNumber_13 : decode b_M_putNumber 13 = .ok (.lload_n 2, 1) := by decide +kernel
theorem d_M_putNumber_14 : decode b_M_putNumber 14 = .ok (.bipush 8, 2) := by decide +kernel
theorem d_M_putNumber_16 : decode b_M_putNumber 16 = .ok (.iload 5, 2) := by decide +kernel
theorem d_M_putNumber_18 : decode b_M_putNumber 18 = .ok (.imul, 1) := by decide +kernel
theorem d_M_putNumber_19 : decode b_M_putNumber 19 = .ok (.lshr, 1) := by decide +kernel
theorem d_M_putNumber_20 : decode b_M_putNumber 20 = .ok (.ldc2_w 79, 3) := by decide +kernel
theorem d_M_putNumber_23 : decode b_M_putNumber 23 = .ok (.land, 1) := by decide +kernel
theorem d_M_putNumber_24 : decode b_M_putNumber 24 = .ok (.l2i, 1) := by decide +kernel
theorem d_M_putNumber_25 : decode b_M_putNumber 25 = .ok (.invokevirtual 106, 3) := by decide +kernel
theorem d_M_putNumber_28 : decode b_M_putNumber 28 = .ok (.iinc 5 (-1), 3) := by decide +kernel
theorem d_M_putNumber_31 : decode b_M_putNumber 31 = .ok (.goto (-25), 3) := by decide +kernel
theorem d_M_putNumber_34 : decode b_M_putNumber 34 = .ok (.return_, 1) := by decide +kernel
theorem d_M_append_0 : decode b_M_append 0 = .ok (.iload_n 3, 1) := by decide +kernel
theorem d_M_append_1 : decode b_M_append 1 = .ok (.iload 6, 2) := by decide +kernel
theorem d_M_append_3 : decode b_M_append 3 = .ok (.invokestatic 81, 3) := by decide +kernel
theorem d_M_append_6 : decode b_M_append 6 = .ok (.istore 7, 2) := by decide +kernel
theorem d_M_append_8 : decode b_M_append 8 = .ok (.aload_n 0, 1) := by decide +kernel
theorem d_M_append_9 : decode b_M_append 9 = .ok (.getfield 102, 3) := by decide +kernel
theorem d_M_append_12 : decode b_M_append 12 = .ok (.ifCond .eq 22, 3) := by decide +kernel
theorem d_M_append_15 : decode b_M_append 15 = .ok (.aload_n 0, 1) := by decide +kernel
theorem d_M_append_16 : decode b_M_append 16 = .ok (.getfield 13, 3) := by decide +kernel
theorem d_M_append_19 : decode b_M_append 19 = .ok (.aload_n 0, 1) := by decide +kernel
theorem d_M_append_20 : decode b_M_append 20 = .ok (.getfield 99, 3) := by decide +kernel
theorem d_M_append_23 : decode b_M_append 23 = .ok (.iconst 1, 1) := by decide +kernel
theorem d_M_append_24 : decode b_M_append 24 = .ok (.isub, 1) := by decide +kernel
theorem d_M_append_25 : decode b_M_append 25 = .ok (.iaload, 1) := by decide +kernel
theorem d_M_append_26 : decode b_M_append 26 = .ok (.iload 7, 2) := by decide +kernel
theorem d_M_append_28 : decode b_M_append 28 = .ok (.iadd, 1) := by decide +kernel
theorem d_M_append_29 : decode b_M_append 29 = .ok (.bipush 100, 2) := by decide +kernel
theorem d_M_append_31 : decode b_M_append 31 = .ok (.if_icmp .le 78, 3) := by decide +kernel
theorem d_M_append_34 : decode b_M_append 34 = .ok (.aload_n 0, 1) := by decide +kernel
theorem d_M_append_35 : decode b_M_append 35 = .ok (.getfield 102, 3) := by decide +kernel
theorem d_M_append_38 : decode b_M_append 38 = .ok (.ifCond .eq 25, 3) := by decide +kernel
theorem d_M_append_41 : decode b_M_append 41 = .ok (.aload_n 0, 1) := by decide +kernel
theorem d_M_append_42 : decode b_M_append 42 = .ok (.getfield 16, 3) := by decide +kernel
theorem d_M_append_45 : decode b_M_append 45 = .ok (.aload_n 0, 1) := by decide +kernel
theorem d_M_append_46 : decode b_M_append 46 = .ok (.getfield 99, 3) := by decide +kernel
theorem d_M_append_49 : decode b_M_append 49 = .ok (.iconst 1, 1) := by decide +kernel
theorem d_M_append_50 : decode b_M_append 50 = .ok (.isub, 1) := by decide +kernel
theorem d_M_append_51 : decode b_M_append 51 = .ok (.aload_n 0, 1) := by decide +kernel
theorem d_M_append_52 : decode b_M_append 52 = .ok (.getfield 13, 3) := by decide +kernel
theorem d_M_append_55 : decode b_M_append 55 = .ok (.aload_n 0, 1) := by decide +kernel
theorem d_M_append_56 : decode b_M_append 56 = .ok (.getfield 99, 3) := by decide +kernel
theorem d_M_append_59 : decode b_M_append 59 = .ok (.iconst 1, 1) := by decide +kernel
theorem d_M_append_60 : decode b_M_append 60 = .ok (.isub, 1) := by decide +kernel
theorem d_M_append_61 : decode b_M_append 61 = .ok (.iaload, 1) := by decide +kernel
theorem d_M_append_62 : decode b_M_append 62 = .ok (.iastore, 1) := by decide +kernel
theorem d_M_append_63 : decode b_M_append 63 = .ok (.aload_n 0, 1) := by decide +kernel
theorem d_M_append_64 : decode b_M_append 64 = .ok (.iconst 1, 1) := by decide +kernel
theorem d_M_append_65 : decode b_M_append 65 = .ok (.putfield 102, 3) := by decide +kernel
theorem d_M_append_68 : decode b_M_append 68 = .ok (.aload_n 0, 1) := by decide +kernel
theorem d_M_append_69 : decode b_M_append 69 = .ok (.aload_n 0, 1) := by decide +kernel
theorem d_M_append_70 : decode b_M_append 70 = .ok (.getfield 99, 3) := by decide +kernel
theorem d_M_append_73 : decode b_M_append 73 = .ok (.invokevirtual 110, 3) := by decide +kernel
theorem d_M_append_76 : decode b_M_append 76 = .ok (.aload_n 0, 1) := by decide +kernel
theorem d_M_append_77 : decode b_M_append 77 = .ok (.dup, 1) := by decide +kernel
theorem d_M_append_78 : decode b_M_append 78 = .ok (.getfield 114, 3) := by decide +kernel
theorem d_M_append_81 : decode b_M_append 81 = .ok (.iconst 1, 1) := by decide +kernel
theorem d_M_append_82 : decode b_M_append 82 = .ok (.iadd, 1) := by decide +kernel
theorem d_M_append_83 : decode b_M_append 83 = .ok (.putfield 114, 3) := by decide +kernel
theorem d_M_append_86 : decode b_M_append 86 = .ok (.aload_n 0, 1) := by decide +kernel
theorem d_M_append_87 : decode b_M_append 87 = .ok (.getfield 7, 3) := by decide +kernel
theorem d_M_append_90 : decode b_M_append 90 = .ok (.aload_n 0, 1) := by decide +kernel
theorem d_M_append_91 : decode b_M_append 91 = .ok (.getfield 99, 3) := by decide +kernel
theorem d_M_append_94 : decode b_M_append 94 = .ok (.aload_n 0, 1) := by decide +kernel
theorem d_M_append_95 : decode b_M_append 95 = .ok (.getfield 114, 3) := by decide +kernel
theorem d_M_append_98 : decode b_M_append 98 = .ok (.iastore, 1) := by decide +kernel
theorem d_M_append_99 : decode b_M_append 99 = .ok (.aload_n 0, 1) := by decide +kernel
theorem d_M_append_100 : decode b_M_append 100 = .ok (.dup, 1) := by decide +kernel
theorem d_M_append_101 : decode b_M_append 101 = .ok (.getfield 99, 3) := by decide +kernel
theorem d_M_append_104 : decode b_M_append 104 = .ok (.iconst 1, 1) := by decide +kernel
theorem d_M_append_105 : decode b_M_append 105 = .ok (.iadd, 1) := by decide +kernel
theorem d_M_append_106 : decode b_M_append 106 = .ok (.putfield 99, 3) := by decide +kernel
theorem d_M_append_109 : decode b_M_append 109 = .ok (.aload_n 0, 1) := by decide +kernel
theorem d_M_append_110 : decode b_M_append 110 = .ok (.getfield 99, 3) := by decide +kernel
theorem d_M_append_113 : decode b_M_append 113 = .ok (.iconst 1, 1) := by decide +kernel
theorem d_M_append_114 : decode b_M_append 114 = .ok (.isub, 1) := by decide +kernel
theorem d_M_append_115 : decode b_M_append 115 = .ok (.istore 8, 2) := by decide +kernel
theorem d_M_append_117 : decode b_M_append 117 = .ok (.aload_n 0, 1) := by decide +kernel
theorem d_M_append_118 : decode b_M_append 118 = .ok (.getfield 13, 3) := by decide +kernel
theorem d_M_append_121 : decode b_M_append 121 = .ok (.iload 8, 2) := by decide +kernel
theorem d_M_append_123 : decode b_M_append 123 = .ok (.iaload, 1) := by decide +kernel
theorem d_M_append_124 : decode b_M_append 124 = .ok (.istore 9, 2) := by decide +kernel
theorem d_M_append_126 : decode b_M_append 126 = .ok (.aload_n 0, 1) := by decide +kernel
theorem d_M_append_127 : decode b_M_append 127 = .ok (.iload 8, 2) := by decide +kernel
theorem d_M_append_129 : decode b_M_append 129 = .ok (.iload 9, 2) := by decide +kernel
theorem d_M_append_131 : decode b_M_append 131 = .ok (.iload_n 3, 1) := by decide +kernel
theorem d_M_append_132 : decode b_M_append 132 = .ok (.iload 6, 2) := by decide +kernel
theorem d_M_append_134 : decode b_M_append 134 = .ok (.invokevirtual 117, 3) := by decide +kernel
theorem d_M_append_137 : decode b_M_append 137 = .ok (.aload_n 0, 1) := by decide +kernel
theorem d_M_append_138 : decode b_M_append 138 = .ok (.iload 8, 2) := by decide +kernel
theorem d_M_append_140 : decode b_M_append 140 = .ok (.lconst 0, 1) := by decide +kernel
theorem d_M_append_141 : decode b_M_append 141 = .ok (.iconst 4, 1) := by decide +kernel
theorem d_M_append_142 : decode b_M_append 142 = .ok (.invokevirtual 121, 3) := by decide +kernel
theorem d_M_append_145 : decode b_M_append 145 = .ok (.aload_n 0, 1) := by decide +kernel
theorem d_M_append_146 : decode b_M_append 146 = .ok (.iload 8, 2) := by decide +kernel
theorem d_M_append_148 : decode b_M_append 148 = .ok (.aload_n 0, 1) := by decide +kernel
theorem d_M_append_149 : decode b_M_append 149 = .ok (.getfield 125, 3) := by decide +kernel
theorem d_M_append_152 : decode b_M_append 152 = .ok (.i2l, 1) := by decide +kernel
theorem d_M_append_153 : decode b_M_append 153 = .ok (.iconst 2, 1) := by decide +kernel
theorem d_M_append_154 : decode b_M_append 154 = .ok (.invokevirtual 121, 3) := by decide +kernel
theorem d_M_append_157 : decode b_M_append 157 = .ok (.aload_n 0, 1) := by decide +kernel
theorem d_M_append_158 : decode b_M_append 158 = .ok (.iload 8, 2) := by decide +kernel
theorem d_M_append_160 : decode b_M_append 160 = .ok (.iload_n 3, 1) := by decide +kernel
theorem d_M_append_161 : decode b_M_append 161 = .ok (.invokevirtual 106, 3) := by decide +kernel
theorem d_M_append_164 : decode b_M_append 164 = .ok (.aload_n 0, 1) := by decide +kernel
theorem d_M_append_165 : decode b_M_append 165 = .ok (.iload 8, 2) := by decide +kernel
theorem d_M_append_167 : decode b_M_append 167 = .ok (.iload 6, 2) := by decide +kernel
theorem d_M_append_169 : decode b_M_append 169 = .ok (.invokevirtual 106, 3) := by decide +kernel
theorem d_M_append_172 : decode b_M_append 172 = .ok (.aload_n 0, 1) := by decide +kernel
theorem d_M_append_173 : decode b_M_append 173 = .ok (.iload 8, 2) := by decide +kernel
theorem d_M_append_175 : decode b_M_append 175 = .ok (.lload_n 1, 1) := by decide +kernel
theorem d_M_append_176 : decode b_M_append 176 = .ok (.iload_n 3, 1) := by decide +kernel
theorem d_M_append_177 : decode b_M_append 177 = .ok (.invokevirtual 121, 3) := by decide +kernel
theorem d_M_append_180 : decode b_M_append 180 = .ok (.iload 6, 2) := by decide +kernel
theorem d_M_append_182 : decode b_M_append 182 = .ok (.sipush 255, 3) := by decide +kernel
theorem d_M_append_185 : decode b_M_append 185 = .ok (.if_icmp .ge 13, 3) := by decide +kernel
theorem d_M_append_188 : decode b_M_append 188 = .ok (.aload_n 0, 1) := by decide +kernel
theorem d_M_append_189 : decode b_M_append 189 = .ok (.iload 8, 2) := by decide +kernel
theorem d_M_append_191 : decode b_M_append 191 = .ok (.lload 4, 2) := by decide +kernel
theorem d_M_append_193 : decode b_M_append 193 = .ok (.iload 6, 2) := by decide +kernel
theorem d_M_append_195 : decode b_M_append 195 = .ok (.invokevirtual 121, 3) := by decide +kernel
theorem d_M_append_198 : decode b_M_append 198 = .ok (.aload_n 0, 1) := by decide +kernel
theorem d_M_append_199 : decode b_M_append 199 = .ok (.getfield 19, 3) := by decide +kernel
theorem d_M_append_202 : decode b_M_append 202 = .ok (.bipush 100, 2) := by decide +kernel
theorem d_M_append_204 : decode b_M_append 204 = .ok (.iload 8, 2) := by decide +kernel
theorem d_M_append_206 : decode b_M_append 206 = .ok (.imul, 1) := by decide +kernel
theorem d_M_append_207 : decode b_M_append 207 = .ok (.iload 9, 2) := by decide +kernel
theorem d_M_append_209 : decode b_M_append 209 = .ok (.iadd, 1) := by decide +kernel
theorem d_M_append_210 : decode b_M_append 210 = .ok (.iconst 4, 1) := by decide +kernel
theorem d_M_append_211 : decode b_M_append 211 = .ok (.iadd, 1) := by decide +kernel
theorem d_M_append_212 : decode b_M_append 212 = .ok (.bipush 100, 2) := by decide +kernel
theorem d_M_append_214 : decode b_M_append 214 = .ok (.iload 8, 2) := by decide +kernel
theorem d_M_append_216 : decode b_M_append 216 = .ok (.imul, 1) := by decide +kernel
theorem d_M_append_217 : decode b_M_append 217 = .ok (.aload_n 0, 1) := by decide +kernel
theorem d_M_append_218 : decode b_M_append 218 = .ok (.getfield 13, 3) := by decide +kernel
theorem d_M_append_221 : decode b_M_append 221 = .ok (.iload 8, 2) := by decide +kernel
theorem d_M_append_223 : decode b_M_append 223 = .ok (.iaload, 1) := by decide +kernel
theorem d_M_append_224 : decode b_M_append 224 = .ok (.iadd, 1) := by decide +kernel
theorem d_M_append_225 : decode b_M_append 225 = .ok (.invokestatic 128, 3) := by decide +kernel
theorem d_M_append_228 : decode b_M_append 228 = .ok (.lstore 10, 2) := by decide +kernel
theorem d_M_append_230 : decode b_M_append 230 = .ok (.iconst 0, 1) := by decide +kernel
theorem d_M_append_231 : decode b_M_append 231 = .ok (.istore 12, 2) := by decide +kernel
theorem d_M_append_233 : decode b_M_append 233 = .ok (.iload 12, 2) := by decide +kernel
theorem d_M_append_235 : decode b_M_append 235 = .ok (.iconst 4, 1) := by decide +kernel
theorem d_M_append_236 : decode b_M_append 236 = .ok (.if_icmp .ge 40, 3) := by decide +kernel
theorem d_M_append_239 : decode b_M_append 239 = .ok (.aload_n 0, 1) := by decide +kernel
theorem d_M_append_240 : decode b_M_append 240 = .ok (.getfield 19, 3) := by decide +kernel
theorem d_M_append_243 : decode b_M_append 243 = .ok (.bipush 100, 2) := by decide +kernel
theorem d_M_append_245 : decode b_M_append 245 = .ok (.iload 8, 2) := by decide +kernel
theorem d_M_append_247 : decode b_M_append 247 = .ok (.imul, 1) := by decide +kernel
theorem d_M_append_248 : decode b_M_append 248 = .ok (.iload 9, 2) := by decide +kernel
theorem d_M_append_250 : decode b_M_append 250 = .ok (.iadd, 1) := by decide +kernel
theorem d_M_append_251 : decode b_M_append 251 = .ok (.iload 12, 2) := by decide +kernel
theorem d_M_append_253 : decode b_M_append 253 = .ok (.iadd, 1) := by decide +kernel
theorem d_M_append_254 : decode b_M_append 254 = .ok (.lload 10, 2) := by decide +kernel
theorem d_M_append_256 : decode b_M_append 256 = .ok (.bipush 8, 2) := by decide +kernel
theorem d_M_append_258 : decode b_M_append 258 = .ok (.iconst 3, 1) := by decide +kernel
theorem d_M_append_259 : decode b_M_append 259 = .ok (.iload 12, 2) := by decide +kernel
theorem d_M_append_261 : decode b_M_append 261 = .ok (.isub, 1) := by decide +kernel
theorem d_M_append_262 : decode b_M_append 262 = .ok (.imul, 1) := by decide +kernel
theorem d_M_append_263 : decode b_M_append 263 = .ok (.lshr, 1) := by decide +kernel
theorem d_M_append_264 : decode b_M_append 264 = .ok (.ldc2_w 79, 3) := by decide +kernel
theorem d_M_append_267 : decode b_M_append 267 = .ok (.land, 1) := by decide +kernel
theorem d_M_append_268 : decode b_M_append 268 = .ok (.l2i, 1) := by decide +kernel
theorem d_M_append_269 : decode b_M_append 269 = .ok (.iastore, 1) := by decide +kernel
theorem d_M_append_270 : decode b_M_append 270 = .ok (.iinc 12 1, 3) := by decide +kernel
theorem d_M_append_273 : decode b_M_append 273 = .ok (.goto (-40), 3) := by decide +kernel
theorem d_M_append_276 : decode b_M_append 276 = .ok (.aload_n 0, 1) := by decide +kernel
theorem d_M_append_277 : decode b_M_append 277 = .ok (.aload_n 0, 1) := by decide +kernel
theorem d_M_append_278 : decode b_M_append 278 = .ok (.getfield 125, 3) := by decide +kernel
theorem d_M_append_281 : decode b_M_append 281 = .ok (.iconst 1, 1) := by decide +kernel
theorem d_M_append_282 : decode b_M_append 282 = .ok (.iadd, 1) := by decide +kernel
theorem d_M_append_283 : decode b_M_append 283 = .ok (.ldc 132, 2) := by decide +kernel
theorem d_M_append_285 : decode b_M_append 285 = .ok (.irem, 1) := by decide +kernel
theorem d_M_append_286 : decode b_M_append 286 = .ok (.putfield 125, 3) := by decide +kernel
theorem d_M_append_289 : decode b_M_append 289 = .ok (.return_, 1) := by decide +kernel
theorem d_M_put_0 : decode b_M_put 0 = .ok (.aload_n 0, 1) := by decide +kernel
theorem d_M_put_1 : decode b_M_put 1 = .ok (.iload_n 3, 1) := by decide +kernel
theorem d_M_put_2 : decode b_M_put 2 = .ok (.iconst 1, 1) := by decide +kernel
theorem d_M_put_3 : decode b_M_put 3 = .ok (.iconst 4, 1) := by decide +kernel
theorem d_M_put_4 : decode b_M_put 4 = .ok (.invokestatic 133, 3) := by decide +kernel
theorem d_M_put_7 : decode b_M_put 7 = .ok (.ifCond .eq 14, 3) := by decide +kernel
theorem d_M_put_10 : decode b_M_put 10 = .ok (.iload 6, 2) := by decide +kernel
theorem d_M_put_12 : decode b_M_put 12 = .ok (.iconst 0, 1) := by decide +kernel
theorem d_M_put_13 : decode b_M_put 13 = .ok (.bipush 8, 2) := by decide +kernel
theorem d_M_put_15 : decode b_M_put 15 = .ok (.invokestatic 133, 3) := by decide +kernel
theorem d_M_put_18 : decode b_M_put 18 = .ok (.ifCond .ne 7, 3) := by decide +kernel
theorem d_M_put_21 : decode b_M_put 21 = .ok (.iconst 1, 1) := by decide +kernel
theorem d_M_put_22 : decode b_M_put 22 = .ok (.goto 32, 3) := by decide +kernel
theorem d_M_put_25 : decode b_M_put 25 = .ok (.aload_n 0, 1) := by decide +kernel
theorem d_M_put_26 : decode b_M_put 26 = .ok (.getfield 137, 3) := by decide +kernel
theorem d_M_put_29 : decode b_M_put 29 = .ok (.ifCond .eq 7, 3) := by decide +kernel
theorem d_M_put_32 : decode b_M_put 32 = .ok (.iconst 2, 1) := by decide +kernel
theorem d_M_put_33 : decode b_M_put 33 = .ok (.goto 21, 3) := by decide +kernel
theorem d_M_put_36 : decode b_M_put 36 = .ok (.aload_n 0, 1) := by decide +kernel
theorem d_M_put_37 : decode b_M_put 37 = .ok (.iload_n 3, 1) := by decide +kernel
theorem d_M_put_38 : decode b_M_put 38 = .ok (.iload 6, 2) := by decide +kernel
theorem d_M_put_40 : decode b_M_put 40 = .ok (.invokestatic 81, 3) := by decide +kernel
theorem d_M_put_43 : decode b_M_put 43 = .ok (.invokevirtual 140, 3) := by decide +kernel
theorem d_M_put_46 : decode b_M_put 46 = .ok (.ifCond .eq 7, 3) := by decide +kernel
theorem d_M_put_49 : decode b_M_put 49 = .ok (.iconst 3, 1) := by decide +kernel
theorem d_M_put_50 : decode b_M_put 50 = .ok (.goto 4, 3) := by decide +kernel
theorem d_M_put_53 : decode b_M_put 53 = .ok (.iconst 0, 1) := by decide +kernel
theorem d_M_put_54 : decode b_M_put 54 = .ok (.putfield 63, 3) := by decide +kernel
theorem d_M_put_57 : decode b_M_put 57 = .ok (.aload_n 0, 1) := by decide +kernel
theorem d_M_put_58 : decode b_M_put 58 = .ok (.getfield 63, 3) := by decide +kernel
theorem d_M_put_61 : decode b_M_put 61 = .ok (.ifCond .le 4, 3) := by decide +kernel
theorem d_M_put_64 : decode b_M_put 64 = .ok (.return_, 1) := by decide +kernel
theorem d_M_put_65 : decode b_M_put 65 = .ok (.aload_n 0, 1) := by decide +kernel
theorem d_M_put_66 : decode b_M_put 66 = .ok (.lload_n 1, 1) := by decide +kernel
theorem d_M_put_67 : decode b_M_put 67 = .ok (.iload_n 3, 1) := by decide +kernel
theorem d_M_put_68 : decode b_M_put 68 = .ok (.lload 4, 2) := by decide +kernel
theorem d_M_put_70 : decode b_M_put 70 = .ok (.iload 6, 2) := by decide +kernel
theorem d_M_put_72 : decode b_M_put 72 = .ok (.invokevirtual 144, 3) := by decide +kernel
theorem d_M_put_75 : decode b_M_put 75 = .ok (.aload_n 0, 1) := by decide +kernel
theorem d_M_put_76 : decode b_M_put 76 = .ok (.lload_n 1, 1) := by decide +kernel
theorem d_M_put_77 : decode b_M_put 77 = .ok (.iload_n 3, 1) := by decide +kernel
theorem d_M_put_78 : decode b_M_put 78 = .ok (.invokestatic 148, 3) := by decide +kernel
theorem d_M_put_81 : decode b_M_put 81 = .ok (.iload_n 3, 1) := by decide +kernel
theorem d_M_put_82 : decode b_M_put 82 = .ok (.aload_n 0, 1) := by decide +kernel
theorem d_M_put_83 : decode b_M_put 83 = .ok (.getfield 114, 3) := by decide +kernel
theorem d_M_put_86 : decode b_M_put 86 = .ok (.aload_n 0, 1) := by decide +kernel
theorem d_M_put_87 : decode b_M_put 87 = .ok (.getfield 32, 3) := by decide +kernel
theorem d_M_put_90 : decode b_M_put 90 = .ok (.aload_n 0, 1) := by decide +kernel
theorem d_M_put_91 : decode b_M_put 91 = .ok (.getfield 99, 3) := by decide +kernel
theorem d_M_put_94 : decode b_M_put 94 = .ok (.iconst 1, 1) := by decide +kernel
theorem d_M_put_95 : decode b_M_put 95 = .ok (.isub, 1) := by decide +kernel
theorem d_M_put_96 : decode b_M_put 96 = .ok (.iaload, 1) := by decide +kernel
theorem d_M_put_97 : decode b_M_put 97 = .ok (.iconst 1, 1) := by decide +kernel
theorem d_M_put_98 : decode b_M_put 98 = .ok (.isub, 1) := by decide +kernel
theorem d_M_put_99 : decode b_M_put 99 = .ok (.invokevirtual 151, 3) := by decide +kernel
theorem d_M_put_102 : decode b_M_put 102 = .ok (.return_, 1) := by decide +kernel
theorem d_M_delete_0 : decode b_M_delete 0 = .ok (.aload_n 0, 1) := by decide +kernel
theorem d_M_delete_1 : decode b_M_delete 1 = .ok (.iload_n 3, 1) := by decide +kernel
theorem d_M_delete_2 : decode b_M_delete 2 = .ok (.iconst 1, 1) := by decide +kernel
theorem d_M_delete_3 : decode b_M_delete 3 = .ok (.iconst 4, 1) := by decide +kernel
theorem d_M_delete_4 : decode b_M_delete 4 = .ok (.invokestatic 133, 3) := by decide +kernel
theorem d_M_delete_7 : decode b_M_delete 7 = .ok (.ifCond .ne 7, 3) := by decide +kernel
theorem d_M_delete_10 : decode b_M_delete 10 = .ok (.iconst 1, 1) := by decide +kernel
theorem d_M_delete_11 : decode b_M_delete 11 = .ok (.goto 15, 3) := by decide +kernel
theorem d_M_delete_14 : decode b_M_delete 14 = .ok (.aload_n 0, 1) := by decide +kernel
theorem d_M_delete_15 : decode b_M_delete 15 = .ok (.getfield 137, 3) := by decide +kernel
theorem d_M_delete_18 : decode b_M_delete 18 = .ok (.ifCond .eq 7, 3) := by decide +kernel
theorem d_M_delete_21 : decode b_M_delete 21 = .ok (.iconst 2, 1) := by decide +kernel
theorem d_M_delete_22 : decode b_M_delete 22 = .ok (.goto 4, 3) := by decide +kernel
theorem d_M_delete_25 : decode b_M_delete 25 = .ok (.iconst 0, 1) := by decide +kernel
theorem d_M_delete_26 : decode b_M_delete 26 = .ok (.putfield 63, 3) := by decide +kernel
theorem d_M_delete_29 : decode b_M_delete 29 = .ok (.aload_n 0, 1) := by decide +kernel
theorem d_M_delete_30 : decode b_M_delete 30 = .ok (.getfield 63, 3) := by decide +kernel
theorem d_M_delete_33 : decode b_M_delete 33 = .ok (.ifCond .gt 16, 3) := by decide +kernel
theorem d_M_delete_36 : decode b_M_delete 36 = .ok (.aload_n 0, 1) := by decide +kernel
theorem d_M_delete_37 : decode b_M_delete 37 = .ok (.lload_n 1, 1) := by decide +kernel
theorem d_M_delete_38 : decode b_M_delete 38 = .ok (.iload_n 3, 1) := by decide +kernel
theorem d_M_delete_39 : decode b_M_delete 39 = .ok (.invokestatic 148, 3) := by decide +kernel
theorem d_M_delete_42 : decode b_M_delete 42 = .ok (.iload_n 3, 1) := by decide +kernel
theorem d_M_delete_43 : decode b_M_delete 43 = .ok (.invokevirtual 88, 3) := by decide +kernel
theorem d_M_delete_46 : decode b_M_delete 46 = .ok (.ifCond .ge 5, 3) := by decide +kernel
theorem d_M_delete_49 : decode b_M_delete 49 = .ok (.iconst 0, 1) := by decide +kernel
theorem d_M_delete_50 : decode b_M_delete 50 = .ok (.ireturn, 1) := by decide +kernel
theorem d_M_delete_51 : decode b_M_delete 51 = .ok (.aload_n 0, 1) := by decide +kernel
theorem d_M_delete_52 : decode b_M_delete 52 = .ok (.bipush 8, 2) := by decide +kernel
theorem d_M_delete_54 : decode b_M_delete 54 = .ok (.iload_n 3, 1) := by decide +kernel
theorem d_M_delete_55 : decode b_M_delete 55 = .ok (.iadd, 1) := by decide +kernel
theorem d_M_delete_56 : decode b_M_delete 56 = .ok (.invokevirtual 140, 3) := by decide +kernel
theorem d_M_delete_59 : decode b_M_delete 59 = .ok (.ifCond .eq 10, 3) := by decide +kernel
theorem d_M_delete_62 : decode b_M_delete 62 = .ok (.aload_n 0, 1) := by decide +kernel
theorem d_M_delete_63 : decode b_M_delete 63 = .ok (.iconst 3, 1) := by decide +kernel
theorem d_M_delete_64 : decode b_M_delete 64 = .ok (.putfield 63, 3) := by decide +kernel
theorem d_M_delete_67 : decode b_M_delete 67 = .ok (.iconst 0, 1) := by decide +kernel
theorem d_M_delete_68 : decode b_M_delete 68 = .ok (.ireturn, 1) := by decide +kernel
theorem d_M_delete_69 : decode b_M_delete 69 = .ok (.aload_n 0, 1) := by decide +kernel
theorem d_M_delete_70 : decode b_M_delete 70 = .ok (.lload_n 1, 1) := by decide +kernel
theorem d_M_delete_71 : decode b_M_delete 71 = .ok (.iload_n 3, 1) := by decide +kernel
theorem d_M_delete_72 : decode b_M_delete 72 = .ok (.lconst 0, 1) := by decide +kernel
theorem d_M_delete_73 : decode b_M_delete 73 = .ok (.sipush 255, 3) := by decide +kernel
theorem d_M_delete_76 : decode b_M_delete 76 = .ok (.invokevirtual 144, 3) := by decide +kernel
theorem d_M_delete_79 : decode b_M_delete 79 = .ok (.aload_n 0, 1) := by decide +kernel
theorem d_M_delete_80 : decode b_M_delete 80 = .ok (.lload_n 1, 1) := by decide +kernel
theorem d_M_delete_81 : decode b_M_delete 81 = .ok (.iload_n 3, 1) := by decide +kernel
theorem d_M_delete_82 : decode b_M_delete 82 = .ok (.invokestatic 148, 3) := by decide +kernel
theorem d_M_delete_85 : decode b_M_delete 85 = .ok (.iload_n 3, 1) := by decide +kernel
theorem d_M_delete_86 : decode b_M_delete 86 = .ok (.invokevirtual 155, 3) := by decide +kernel
theorem d_M_delete_89 : decode b_M_delete 89 = .ok (.iconst 1, 1) := by decide +kernel
theorem d_M_delete_90 : decode b_M_delete 90 = .ok (.ireturn, 1) := by decide +kernel
theorem d_M_get_0 : decode b_M_get 0 = .ok (.aload_n 0, 1) := by decide +kernel
theorem d_M_get_1 : decode b_M_get 1 = .ok (.iload_n 3, 1) := by decide +kernel
theorem d_M_get_2 : decode b_M_get 2 = .ok (.iconst 1, 1) := by decide +kernel
theorem d_M_get_3 : decode b_M_get 3 = .ok (.iconst 4, 1) := by decide +kernel
theorem d_M_get_4 : decode b_M_get 4 = .ok (.invokestatic 133, 3) := by decide +kernel
theorem d_M_get_7 : decode b_M_get 7 = .ok (.ifCond .ne 7, 3) := by decide +kernel
theorem d_M_get_10 : decode b_M_get 10 = .ok (.iconst 1, 1) := by decide +kernel
theorem d_M_get_11 : decode b_M_get 11 = .ok (.goto 15, 3) := by decide +kernel
theorem d_M_get_14 : decode b_M_get 14 = .ok (.aload_n 0, 1) := by decide +kernel
theorem d_M_get_15 : decode b_M_get 15 = .ok (.getfield 137, 3) := by decide +kernel
theorem d_M_get_18 : decode b_M_get 18 = .ok (.ifCond .eq 7, 3) := by decide +kernel
theorem d_M_get_21 : decode b_M_get 21 = .ok (.iconst 2, 1) := by decide +kernel
theorem d_M_get_22 : decode b_M_get 22 = .ok (.goto 4, 3) := by decide +kernel
theorem d_M_get_25 : decode b_M_get 25 = .ok (.iconst 0, 1) := by decide +kernel
theorem d_M_get_26 : decode b_M_get 26 = .ok (.putfield 63, 3) := by decide +kernel
theorem d_M_get_29 : decode b_M_get 29 = .ok (.aload_n 0, 1) := by decide +kernel
theorem d_M_get_30 : decode b_M_get 30 = .ok (.getfield 63, 3) := by decide +kernel
theorem d_M_get_33 : decode b_M_get 33 = .ok (.ifCond .le 5, 3) := by decide +kernel
theorem d_M_get_36 : decode b_M_get 36 = .ok (.lconst 0, 1) := by decide +kernel
theorem d_M_get_37 : decode b_M_get 37 = .ok (.lreturn, 1) := by decide +kernel
theorem d_M_get_38 : decode b_M_get 38 = .ok (.aload_n 0, 1) := by decide +kernel
theorem d_M_get_39 : decode b_M_get 39 = .ok (.lload_n 1, 1) := by decide +kernel
theorem d_M_get_40 : decode b_M_get 40 = .ok (.iload_n 3, 1) := by decide +kernel
theorem d_M_get_41 : decode b_M_get 41 = .ok (.invokestatic 148, 3) := by decide +kernel
theorem d_M_get_44 : decode b_M_get 44 = .ok (.iload_n 3, 1) := by decide +kernel
theorem d_M_get_45 : decode b_M_get 45 = .ok (.invokevirtual 88, 3) := by decide +kernel
theorem d_M_get_48 : decode b_M_get 48 = .ok (.istore 4, 2) := by decide +kernel
theorem d_M_get_50 : decode b_M_get 50 = .ok (.iload 4, 2) := by decide +kernel
theorem d_M_get_52 : decode b_M_get 52 = .ok (.ifCond .ge 10, 3) := by decide +kernel
theorem d_M_get_55 : decode b_M_get 55 = .ok (.aload_n 0, 1) := by decide +kernel
theorem d_M_get_56 : decode b_M_get 56 = .ok (.iconst 3, 1) := by decide +kernel
theorem d_M_get_57 : decode b_M_get 57 = .ok (.invokevirtual 159, 3) := by decide +kernel
theorem d_M_get_60 : decode b_M_get 60 = .ok (.i2l, 1) := by decide +kernel
theorem d_M_get_61 : decode b_M_get 61 = .ok (.lreturn, 1) := by decide +kernel
theorem d_M_get_62 : decode b_M_get 62 = .ok (.aload_n 0, 1) := by decide +kernel
theorem d_M_get_63 : decode b_M_get 63 = .ok (.aload_n 0, 1) := by decide +kernel
theorem d_M_get_64 : decode b_M_get 64 = .ok (.getfield 57, 3) := by decide +kernel
theorem d_M_get_67 : decode b_M_get 67 = .ok (.iload 4, 2) := by decide +kernel
theorem d_M_get_69 : decode b_M_get 69 = .ok (.iaload, 1) := by decide +kernel
theorem d_M_get_70 : decode b_M_get 70 = .ok (.invokevirtual 163, 3) := by decide +kernel
theorem d_M_get_73 : decode b_M_get 73 = .ok (.istore 5, 2) := by decide +kernel
theorem d_M_get_75 : decode b_M_get 75 = .ok (.bipush 100, 2) := by decide +kernel
theorem d_M_get_77 : decode b_M_get 77 = .ok (.iload 5, 2) := by decide +kernel
theorem d_M_get_79 : decode b_M_get 79 = .ok (.imul, 1) := by decide +kernel
theorem d_M_get_80 : decode b_M_get 80 = .ok (.aload_n 0, 1) := by decide +kernel
theorem d_M_get_81 : decode b_M_get 81 = .ok (.getfield 35, 3) := by decide +kernel
theorem d_M_get_84 : decode b_M_get 84 = .ok (.bipush 12, 2) := by decide +kernel
theorem d_M_get_86 : decode b_M_get 86 = .ok (.iload 5, 2) := by decide +kernel
theorem d_M_get_88 : decode b_M_get 88 = .ok (.imul, 1) := by decide +kernel
theorem d_M_get_89 : decode b_M_get 89 = .ok (.aload_n 0, 1) := by decide +kernel
theorem d_M_get_90 : decode b_M_get 90 = .ok (.getfield 60, 3) := by decide +kernel
theorem d_M_get_93 : decode b_M_get 93 = .ok (.iload 4, 2) := by decide +kernel
theorem d_M_get_95 : decode b_M_get 95 = .ok (.iaload, 1) := by decide +kernel
theorem d_M_get_96 : decode b_M_get 96 = .ok (.iadd, 1) := by decide +kernel
theorem d_M_get_97 : decode b_M_get 97 = .ok (.iaload, 1) := by decide +kernel
theorem d_M_get_98 : decode b_M_get 98 = .ok (.iadd, 1) := by decide +kernel
theorem d_M_get_99 : decode b_M_get 99 = .ok (.istore 6, 2) := by decide +kernel
theorem d_M_get_101 : decode b_M_get 101 = .ok (.aload_n 0, 1) := by decide +kernel
theorem d_M_get_102 : decode b_M_get 102 = .ok (.iload 5, 2) := by decide +kernel
theorem d_M_get_104 : decode b_M_get 104 = .ok (.aload_n 0, 1) := by decide +kernel
theorem d_M_get_105 : decode b_M_get 105 = .ok (.getfield 60, 3) := by decide +kernel
theorem d_M_get_108 : decode b_M_get 108 = .ok (.iload 4, 2) := by decide +kernel
theorem d_M_get_110 : decode b_M_get 110 = .ok (.iaload, 1) := by decide +kernel
theorem d_M_get_111 : decode b_M_get 111 = .ok (.invokevirtual 166, 3) := by decide +kernel
theorem d_M_get_114 : decode b_M_get 114 = .ok (.istore 7, 2) := by decide +kernel
theorem d_M_get_116 : decode b_M_get 116 = .ok (.aload_n 0, 1) := by decide +kernel
theorem d_M_get_117 : decode b_M_get 117 = .ok (.getfield 19, 3) := by decide +kernel
theorem d_M_get_120 : decode b_M_get 120 = .ok (.iload 6, 2) := by decide +kernel
theorem d_M_get_122 : decode b_M_get 122 = .ok (.iconst 4, 1) := by decide +kernel
theorem d_M_get_123 : decode b_M_get 123 = .ok (.invokestatic 169, 3) := by decide +kernel
theorem d_M_get_126 : decode b_M_get 126 = .ok (.aload_n 0, 1) := by decide +kernel
theorem d_M_get_127 : decode b_M_get 127 = .ok (.getfield 19, 3) := by decide +kernel
theorem d_M_get_130 : decode b_M_get 130 = .ok (.iload 6, 2) := by decide +kernel
theorem d_M_get_132 : decode b_M_get 132 = .ok (.iconst 4, 1) := by decide +kernel
theorem d_M_get_133 : decode b_M_get 133 = .ok (.iadd, 1) := by decide +kernel
theorem d_M_get_134 : decode b_M_get 134 = .ok (.iload 6, 2) := by decide +kernel
theorem d_M_get_136 : decode b_M_get 136 = .ok (.iload 7, 2) := by decide +kernel
theorem d_M_get_138 : decode b_M_get 138 = .ok (.iadd, 1) := by decide +kernel
theorem d_M_get_139 : decode b_M_get 139 = .ok (.invokestatic 128, 3) := by decide +kernel
theorem d_M_get_142 : decode b_M_get 142 = .ok (.lcmp, 1) := by decide +kernel
theorem d_M_get_143 : decode b_M_get 143 = .ok (.ifCond .eq 10, 3) := by decide +kernel
theorem d_M_get_146 : decode b_M_get 146 = .ok (.aload_n 0, 1) := by decide +kernel
theorem d_M_get_147 : decode b_M_get 147 = .ok (.iconst 4, 1) := by decide +kernel
theorem d_M_get_148 : decode b_M_get 148 = .ok (.invokevirtual 159, 3) := by decide +kernel
theorem d_M_get_151 : decode b_M_get 151 = .ok (.i2l, 1) := by decide +kernel
theorem d_M_get_152 : decode b_M_get 152 = .ok (.lreturn, 1) := by decide +kernel
theorem d_M_get_153 : decode b_M_get 153 = .ok (.aload_n 0, 1) := by decide +kernel
theorem d_M_get_154 : decode b_M_get 154 = .ok (.getfield 19, 3) := by decide +kernel
theorem d_M_get_157 : decode b_M_get 157 = .ok (.iload 6, 2) := by decide +kernel
theorem d_M_get_159 : decode b_M_get 159 = .ok (.bipush 8, 2) := by decide +kernel
theorem d_M_get_161 : decode b_M_get 161 = .ok (.iadd, 1) := by decide +kernel
theorem d_M_get_162 : decode b_M_get 162 = .ok (.iload_n 3, 1) := by decide +kernel
theorem d_M_get_163 : decode b_M_get 163 = .ok (.iadd, 1) := by decide +kernel
theorem d_M_get_164 : decode b_M_get 164 = .ok (.iload 7, 2) := by decide +kernel
theorem d_M_get_166 : decode b_M_get 166 = .ok (.bipush 8, 2) := by decide +kernel
theorem d_M_get_168 : decode b_M_get 168 = .ok (.isub, 1) := by decide +kernel
theorem d_M_get_169 : decode b_M_get 169 = .ok (.iload_n 3, 1) := by decide +kernel
theorem d_M_get_170 : decode b_M_get 170 = .ok (.isub, 1) := by decide +kernel
theorem d_M_get_171 : decode b_M_get 171 = .ok (.invokestatic 169, 3) := by decide +kernel
theorem d_M_get_174 : decode b_M_get 174 = .ok (.lreturn, 1) := by decide +kernel
theorem d_M_keys_0 : decode b_M_keys 0 = .ok (.aload_n 0, 1) := by decide +kernel
theorem d_M_keys_1 : decode b_M_keys 1 = .ok (.aload_n 0, 1) := by decide +kernel
theorem d_M_keys_2 : decode b_M_keys 2 = .ok (.getfield 137, 3) := by decide +kernel
theorem d_M_keys_5 : decode b_M_keys 5 = .ok (.ifCond .eq 7, 3) := by decide +kernel
theorem d_M_keys_8 : decode b_M_keys 8 = .ok (.iconst 1, 1) := by decide +kernel
theorem d_M_keys_9 : decode b_M_keys 9 = .ok (.goto 4, 3) := by decide +kernel
theorem d_M_keys_12 : decode b_M_keys 12 = .ok (.iconst 0, 1) := by decide +kernel
theorem d_M_keys_13 : decode b_M_keys 13 = .ok (.putfield 63, 3) := by decide +kernel
theorem d_M_keys_16 : decode b_M_keys 16 = .ok (.aload_n 0, 1) := by decide +kernel
theorem d_M_keys_17 : decode b_M_keys 17 = .ok (.getfield 137, 3) := by decide +kernel
theorem d_M_keys_20 : decode b_M_keys 20 = .ok (.ifCond .eq 7, 3) := by decide +kernel
theorem d_M_keys_23 : decode b_M_keys 23 = .ok (.iconst 0, 1) := by decide +kernel
theorem d_M_keys_24 : decode b_M_keys 24 = .ok (.goto 7, 3) := by decide +kernel
theorem d_M_keys_27 : decode b_M_keys 27 = .ok (.aload_n 0, 1) := by decide +kernel
theorem d_M_keys_28 : decode b_M_keys 28 = .ok (.getfield 85, 3) := by decide +kernel
theorem d_M_keys_31 : decode b_M_keys 31 = .ok (.ireturn, 1) := by decide +kernel
theorem d_M_key_0 : decode b_M_key 0 = .ok (.aload_n 0, 1) := by decide +kernel
theorem d_M_key_1 : decode b_M_key 1 = .ok (.iload_n 2, 1) := by decide +kernel
theorem d_M_key_2 : decode b_M_key 2 = .ok (.iconst 0, 1) := by decide +kernel
theorem d_M_key_3 : decode b_M_key 3 = .ok (.iconst 3, 1) := by decide +kernel
theorem d_M_key_4 : decode b_M_key 4 = .ok (.invokestatic 133, 3) := by decide +kernel
theorem d_M_key_7 : decode b_M_key 7 = .ok (.ifCond .ne 7, 3) := by decide +kernel
theorem d_M_key_10 : decode b_M_key 10 = .ok (.iconst 1, 1) := by decide +kernel
theorem d_M_key_11 : decode b_M_key 11 = .ok (.goto 33, 3) := by decide +kernel
theorem d_M_key_14 : decode b_M_key 14 = .ok (.aload_n 0, 1) := by decide +kernel
theorem d_M_key_15 : decode b_M_key 15 = .ok (.getfield 137, 3) := by decide +kernel
theorem d_M_key_18 : decode b_M_key 18 = .ok (.ifCond .eq 7, 3) := by decide +kernel
theorem d_M_key_21 : decode b_M_key 21 = .ok (.iconst 2, 1) := by decide +kernel
theorem d_M_key_22 : decode b_M_key 22 = .ok (.goto 22, 3) := by decide +kernel
theorem d_M_key_25 : decode b_M_key 25 = .ok (.iload_n 1, 1) := by decide +kernel
theorem d_M_key_26 : decode b_M_key 26 = .ok (.iconst 0, 1) := by decide +kernel
theorem d_M_key_27 : decode b_M_key 27 = .ok (.aload_n 0, 1) := by decide +kernel
theorem d_M_key_28 : decode b_M_key 28 = .ok (.getfield 85, 3) := by decide +kernel
theorem d_M_key_31 : decode b_M_key 31 = .ok (.iconst 1, 1) := by decide +kernel
theorem d_M_key_32 : decode b_M_key 32 = .ok (.isub, 1) := by decide +kernel
theorem d_M_key_33 : decode b_M_key 33 = .ok (.invokestatic 133, 3) := by decide +kernel
theorem d_M_key_36 : decode b_M_key 36 = .ok (.ifCond .ne 7, 3) := by decide +kernel
theorem d_M_key_39 : decode b_M_key 39 = .ok (.iconst 3, 1) := by decide +kernel
theorem d_M_key_40 : decode b_M_key 40 = .ok (.goto 4, 3) := by decide +kernel
theorem d_M_key_43 : decode b_M_key 43 = .ok (.iconst 0, 1) := by decide +kernel
theorem d_M_key_44 : decode b_M_key 44 = .ok (.putfield 63, 3) := by decide +kernel
theorem d_M_key_47 : decode b_M_key 47 = .ok (.aload_n 0, 1) := by decide +kernel
theorem d_M_key_48 : decode b_M_key 48 = .ok (.getfield 63, 3) := by decide +kernel
theorem d_M_key_51 : decode b_M_key 51 = .ok (.ifCond .le 5, 3) := by decide +kernel
theorem d_M_key_54 : decode b_M_key 54 = .ok (.lconst 0, 1) := by decide +kernel
theorem d_M_key_55 : decode b_M_key 55 = .ok (.lreturn, 1) := by decide +kernel
theorem d_M_key_56 : decode b_M_key 56 = .ok (.aload_n 0, 1) := by decide +kernel
theorem d_M_key_57 : decode b_M_key 57 = .ok (.iload_n 1, 1) := by decide +kernel
theorem d_M_key_58 : decode b_M_key 58 = .ok (.invokevirtual 172, 3) := by decide +kernel
theorem d_M_key_61 : decode b_M_key 61 = .ok (.istore_n 3, 1) := by decide +kernel
theorem d_M_key_62 : decode b_M_key 62 = .ok (.aload_n 0, 1) := by decide +kernel
theorem d_M_key_63 : decode b_M_key 63 = .ok (.aload_n 0, 1) := by decide +kernel
theorem d_M_key_64 : decode b_M_key 64 = .ok (.getfield 57, 3) := by decide +kernel
theorem d_M_key_67 : decode b_M_key 67 = .ok (.iload_n 3, 1) := by decide +kernel
theorem d_M_key_68 : decode b_M_key 68 = .ok (.iaload, 1) := by decide +kernel
theorem d_M_key_69 : decode b_M_key 69 = .ok (.invokevirtual 163, 3) := by decide +kernel
theorem d_M_key_72 : decode b_M_key 72 = .ok (.istore 4, 2) := by decide +kernel
theorem d_M_key_74 : decode b_M_key 74 = .ok (.iload_n 2, 1) := by decide +kernel
theorem d_M_key_75 : decode b_M_key 75 = .ok (.ifCond .ne 13, 3) := by decide +kernel
theorem d_M_key_78 : decode b_M_key 78 = .ok (.aload_n 0, 1) := by decide +kernel
theorem d_M_key_79 : decode b_M_key 79 = .ok (.getfield 54, 3) := by decide +kernel
theorem d_M_key_82 : decode b_M_key 82 = .ok (.iload_n 3, 1) := by decide +kernel
theorem d_M_key_83 : decode b_M_key 83 = .ok (.iaload, 1) := by decide +kernel
theorem d_M_key_84 : decode b_M_key 84 = .ok (.i2l, 1) := by decide +kernel
theorem d_M_key_85 : decode b_M_key 85 = .ok (.goto 50, 3) := by decide +kernel
theorem d_M_key_88 : decode b_M_key 88 = .ok (.iload_n 2, 1) := by decide +kernel
theorem d_M_key_89 : decode b_M_key 89 = .ok (.iconst 1, 1) := by decide +kernel
theorem d_M_key_90 : decode b_M_key 90 = .ok (.if_icmp .ne 12, 3) := by decide +kernel
theorem d_M_key_93 : decode b_M_key 93 = .ok (.aload_n 0, 1) := by decide +kernel
theorem d_M_key_94 : decode b_M_key 94 = .ok (.getfield 50, 3) := by decide +kernel
theorem d_M_key_97 : decode b_M_key 97 = .ok (.iload_n 3, 1) := by decide +kernel
theorem d_M_key_98 : decode b_M_key 98 = .ok (.laload, 1) := by decide +kernel
theorem d_M_key_99 : decode b_M_key 99 = .ok (.goto 36, 3) := by decide +kernel
theorem d_M_key_102 : decode b_M_key 102 = .ok (.iload_n 2, 1) := by decide +kernel
theorem d_M_key_103 : decode b_M_key 103 = .ok (.iconst 2, 1) := by decide +kernel
theorem d_M_key_104 : decode b_M_key 104 = .ok (.if_icmp .ne 13, 3) := by decide +kernel
theorem d_M_key_107 : decode b_M_key 107 = .ok (.aload_n 0, 1) := by decide +kernel
theorem d_M_key_108 : decode b_M_key 108 = .ok (.getfield 57, 3) := by decide +kernel
theorem d_M_key_111 : decode b_M_key 111 = .ok (.iload_n 3, 1) := by decide +kernel
theorem d_M_key_112 : decode b_M_key 112 = .ok (.iaload, 1) := by decide +kernel
theorem d_M_key_113 : decode b_M_key 113 = .ok (.i2l, 1) := by decide +kernel
theorem d_M_key_114 : decode b_M_key 114 = .ok (.goto 21, 3) := by decide +kernel
theorem d_M_key_117 : decode b_M_key 117 = .ok (.aload_n 0, 1) := by decide +kernel
theorem d_M_key_118 : decode b_M_key 118 = .ok (.getfield 35, 3) := by decide +kernel
theorem d_M_key_121 : decode b_M_key 121 = .ok (.bipush 12, 2) := by decide +kernel
theorem d_M_key_123 : decode b_M_key 123 = .ok (.iload 4, 2) := by decide +kernel
theorem d_M_key_125 : decode b_M_key 125 = .ok (.imul, 1) := by decide +kernel
theorem d_M_key_126 : decode b_M_key 126 = .ok (.aload_n 0, 1) := by decide +kernel
theorem d_M_key_127 : decode b_M_key 127 = .ok (.getfield 60, 3) := by decide +kernel
theorem d_M_key_130 : decode b_M_key 130 = .ok (.iload_n 3, 1) := by decide +kernel
theorem d_M_key_131 : decode b_M_key 131 = .ok (.iaload, 1) := by decide +kernel
theorem d_M_key_132 : decode b_M_key 132 = .ok (.iadd, 1) := by decide +kernel
theorem d_M_key_133 : decode b_M_key 133 = .ok (.iaload, 1) := by decide +kernel
theorem d_M_key_134 : decode b_M_key 134 = .ok (.i2l, 1) := by decide +kernel
theorem d_M_key_135 : decode b_M_key 135 = .ok (.lreturn, 1) := by decide +kernel
theorem d_M_sync_0 : decode b_M_sync 0 = .ok (.aload_n 0, 1) := by decide +kernel
theorem d_M_sync_1 : decode b_M_sync 1 = .ok (.aload_n 0, 1) := by decide +kernel
theorem d_M_sync_2 : decode b_M_sync 2 = .ok (.getfield 137, 3) := by decide +kernel
theorem d_M_sync_5 : decode b_M_sync 5 = .ok (.ifCond .eq 7, 3) := by decide +kernel
theorem d_M_sync_8 : decode b_M_sync 8 = .ok (.iconst 1, 1) := by decide +kernel
theorem d_M_sync_9 : decode b_M_sync 9 = .ok (.goto 4, 3) := by decide +kernel
theorem d_M_sync_12 : decode b_M_sync 12 = .ok (.iconst 0, 1) := by decide +kernel
theorem d_M_sync_13 : decode b_M_sync 13 = .ok (.putfield 63, 3) := by decide +kernel
theorem d_M_sync_16 : decode b_M_sync 16 = .ok (.aload_n 0, 1) := by decide +kernel
theorem d_M_sync_17 : decode b_M_sync 17 = .ok (.getfield 63, 3) := by decide +kernel
theorem d_M_sync_20 : decode b_M_sync 20 = .ok (.ifCond .ne 32, 3) := by decide +kernel
theorem d_M_sync_23 : decode b_M_sync 23 = .ok (.aload_n 0, 1) := by decide +kernel
theorem d_M_sync_24 : decode b_M_sync 24 = .ok (.getfield 102, 3) := by decide +kernel
theorem d_M_sync_27 : decode b_M_sync 27 = .ok (.ifCond .eq 25, 3) := by decide +kernel
theorem d_M_sync_30 : decode b_M_sync 30 = .ok (.aload_n 0, 1) := by decide +kernel
theorem d_M_sync_31 : decode b_M_sync 31 = .ok (.getfield 16, 3) := by decide +kernel
theorem d_M_sync_34 : decode b_M_sync 34 = .ok (.aload_n 0, 1) := by decide +kernel
theorem d_M_sync_35 : decode b_M_sync 35 = .ok (.getfield 99, 3) := by decide +kernel
theorem d_M_sync_38 : decode b_M_sync 38 = .ok (.iconst 1, 1) := by decide +kernel
theorem d_M_sync_39 : decode b_M_sync 39 = .ok (.isub, 1) := by decide +kernel
theorem d_M_sync_40 : decode b_M_sync 40 = .ok (.aload_n 0, 1) := by decide +kernel
theorem d_M_sync_41 : decode b_M_sync 41 = .ok (.getfield 13, 3) := by decide +kernel
theorem d_M_sync_44 : decode b_M_sync 44 = .ok (.aload_n 0, 1) := by decide +kernel
theorem d_M_sync_45 : decode b_M_sync 45 = .ok (.getfield 99, 3) := by decide +kernel
theorem d_M_sync_48 : decode b_M_sync 48 = .ok (.iconst 1, 1) := by decide +kernel
theorem d_M_sync_49 : decode b_M_sync 49 = .ok (.isub, 1) := by decide +kernel
theorem d_M_sync_50 : decode b_M_sync 50 = .ok (.iaload, 1) := by decide +kernel
theorem d_M_sync_51 : decode b_M_sync 51 = .ok (.iastore, 1) := by decide +kernel
theorem d_M_sync_52 : decode b_M_sync 52 = .ok (.return_, 1) := by decide +kernel
theorem d_M_lose_0 : decode b_M_lose 0 = .ok (.aload_n 0, 1) := by decide +kernel
theorem d_M_lose_1 : decode b_M_lose 1 = .ok (.iload_n 1, 1) := by decide +kernel
theorem d_M_lose_2 : decode b_M_lose 2 = .ok (.iconst 0, 1) := by decide +kernel
theorem d_M_lose_3 : decode b_M_lose 3 = .ok (.bipush 100, 2) := by decide +kernel
theorem d_M_lose_5 : decode b_M_lose 5 = .ok (.invokestatic 133, 3) := by decide +kernel
theorem d_M_lose_8 : decode b_M_lose 8 = .ok (.ifCond .eq 7, 3) := by decide +kernel
theorem d_M_lose_11 : decode b_M_lose 11 = .ok (.iconst 0, 1) := by decide +kernel
theorem d_M_lose_12 : decode b_M_lose 12 = .ok (.goto 4, 3) := by decide +kernel
theorem d_M_lose_15 : decode b_M_lose 15 = .ok (.iconst 1, 1) := by decide +kernel
theorem d_M_lose_16 : decode b_M_lose 16 = .ok (.putfield 63, 3) := by decide +kernel
theorem d_M_lose_19 : decode b_M_lose 19 = .ok (.aload_n 0, 1) := by decide +kernel
theorem d_M_lose_20 : decode b_M_lose 20 = .ok (.getfield 63, 3) := by decide +kernel
theorem d_M_lose_23 : decode b_M_lose 23 = .ok (.ifCond .le 4, 3) := by decide +kernel
theorem d_M_lose_26 : decode b_M_lose 26 = .ok (.return_, 1) := by decide +kernel
theorem d_M_lose_27 : decode b_M_lose 27 = .ok (.aload_n 0, 1) := by decide +kernel
theorem d_M_lose_28 : decode b_M_lose 28 = .ok (.getfield 102, 3) := by decide +kernel
theorem d_M_lose_31 : decode b_M_lose 31 = .ok (.ifCond .eq 57, 3) := by decide +kernel
theorem d_M_lose_34 : decode b_M_lose 34 = .ok (.aload_n 0, 1) := by decide +kernel
theorem d_M_lose_35 : decode b_M_lose 35 = .ok (.getfield 99, 3) := by decide +kernel
theorem d_M_lose_38 : decode b_M_lose 38 = .ok (.iconst 1, 1) := by decide +kernel
theorem d_M_lose_39 : decode b_M_lose 39 = .ok (.isub, 1) := by decide +kernel
theorem d_M_lose_40 : decode b_M_lose 40 = .ok (.istore_n 2, 1) := by decide +kernel
theorem d_M_lose_41 : decode b_M_lose 41 = .ok (.aload_n 0, 1) := by decide +kernel
theorem d_M_lose_42 : decode b_M_lose 42 = .ok (.getfield 16, 3) := by decide +kernel
theorem d_M_lose_45 : decode b_M_lose 45 = .ok (.iload_n 2, 1) := by decide +kernel
theorem d_M_lose_46 : decode b_M_lose 46 = .ok (.iaload, 1) := by decide +kernel
theorem d_M_lose_47 : decode b_M_lose 47 = .ok (.iload_n 1, 1) := by decide +kernel
theorem d_M_lose_48 : decode b_M_lose 48 = .ok (.iadd, 1) := by decide +kernel
theorem d_M_lose_49 : decode b_M_lose 49 = .ok (.istore_n 3, 1) := by decide +kernel
theorem d_M_lose_50 : decode b_M_lose 50 = .ok (.aload_n 0, 1) := by decide +kernel
theorem d_M_lose_51 : decode b_M_lose 51 = .ok (.getfield 13, 3) := by decide +kernel
theorem d_M_lose_54 : decode b_M_lose 54 = .ok (.iload_n 2, 1) := by decide +kernel
theorem d_M_lose_55 : decode b_M_lose 55 = .ok (.iload_n 3, 1) := by decide +kernel
theorem d_M_lose_56 : decode b_M_lose 56 = .ok (.aload_n 0, 1) := by decide +kernel
theorem d_M_lose_57 : decode b_M_lose 57 = .ok (.getfield 13, 3) := by decide +kernel
theorem d_M_lose_60 : decode b_M_lose 60 = .ok (.iload_n 2, 1) := by decide +kernel
theorem d_M_lose_61 : decode b_M_lose 61 = .ok (.iaload, 1) := by decide +kernel
theorem d_M_lose_62 : decode b_M_lose 62 = .ok (.if_icmp .ge 7, 3) := by decide +kernel
theorem d_M_lose_65 : decode b_M_lose 65 = .ok (.iload_n 3, 1) := by decide +kernel
theorem d_M_lose_66 : decode b_M_lose 66 = .ok (.goto 9, 3) := by decide +kernel
theorem d_M_lose_69 : decode b_M_lose 69 = .ok (.aload_n 0, 1) := by decide +kernel
theorem d_M_lose_70 : decode b_M_lose 70 = .ok (.getfield 13, 3) := by decide +kernel
theorem d_M_lose_73 : decode b_M_lose 73 = .ok (.iload_n 2, 1) := by decide +kernel
theorem d_M_lose_74 : decode b_M_lose 74 = .ok (.iaload, 1) := by decide +kernel
theorem d_M_lose_75 : decode b_M_lose 75 = .ok (.iastore, 1) := by decide +kernel
theorem d_M_lose_76 : decode b_M_lose 76 = .ok (.aload_n 0, 1) := by decide +kernel
theorem d_M_lose_77 : decode b_M_lose 77 = .ok (.getfield 16, 3) := by decide +kernel
theorem d_M_lose_80 : decode b_M_lose 80 = .ok (.iload_n 2, 1) := by decide +kernel
theorem d_M_lose_81 : decode b_M_lose 81 = .ok (.aload_n 0, 1) := by decide +kernel
theorem d_M_lose_82 : decode b_M_lose 82 = .ok (.getfield 13, 3) := by decide +kernel
theorem d_M_lose_85 : decode b_M_lose 85 = .ok (.iload_n 2, 1) := by decide +kernel
theorem d_M_lose_86 : decode b_M_lose 86 = .ok (.iaload, 1) := by decide +kernel
theorem d_M_lose_87 : decode b_M_lose 87 = .ok (.iastore, 1) := by decide +kernel
theorem d_M_lose_88 : decode b_M_lose 88 = .ok (.aload_n 0, 1) := by decide +kernel
theorem d_M_lose_89 : decode b_M_lose 89 = .ok (.iconst 0, 1) := by decide +kernel
theorem d_M_lose_90 : decode b_M_lose 90 = .ok (.putfield 102, 3) := by decide +kernel
theorem d_M_lose_93 : decode b_M_lose 93 = .ok (.aload_n 0, 1) := by decide +kernel
theorem d_M_lose_94 : decode b_M_lose 94 = .ok (.iconst 0, 1) := by decide +kernel
theorem d_M_lose_95 : decode b_M_lose 95 = .ok (.putfield 175, 3) := by decide +kernel
theorem d_M_lose_98 : decode b_M_lose 98 = .ok (.aload_n 0, 1) := by decide +kernel
theorem d_M_lose_99 : decode b_M_lose 99 = .ok (.iconst 1, 1) := by decide +kernel
theorem d_M_lose_100 : decode b_M_lose 100 = .ok (.putfield 137, 3) := by decide +kernel
theorem d_M_lose_103 : decode b_M_lose 103 = .ok (.return_, 1) := by decide +kernel
theorem d_M_tells_0 : decode b_M_tells 0 = .ok (.aload_n 0, 1) := by decide +kernel
theorem d_M_tells_1 : decode b_M_tells 1 = .ok (.getfield 32, 3) := by decide +kernel
theorem d_M_tells_4 : decode b_M_tells 4 = .ok (.iload_n 1, 1) := by decide +kernel
theorem d_M_tells_5 : decode b_M_tells 5 = .ok (.iconst 0, 1) := by decide +kernel
theorem d_M_tells_6 : decode b_M_tells 6 = .ok (.iastore, 1) := by decide +kernel
theorem d_M_tells_7 : decode b_M_tells 7 = .ok (.bipush 120, 2) := by decide +kernel
theorem d_M_tells_9 : decode b_M_tells 9 = .ok (.iload_n 1, 1) := by decide +kernel
theorem d_M_tells_10 : decode b_M_tells 10 = .ok (.imul, 1) := by decide +kernel
theorem d_M_tells_11 : decode b_M_tells 11 = .ok (.istore_n 2, 1) := by decide +kernel
theorem d_M_tells_12 : decode b_M_tells 12 = .ok (.iload_n 2, 1) := by decide +kernel
theorem d_M_tells_13 : decode b_M_tells 13 = .ok (.aload_n 0, 1) := by decide +kernel
theorem d_M_tells_14 : decode b_M_tells 14 = .ok (.getfield 26, 3) := by decide +kernel
theorem d_M_tells_17 : decode b_M_tells 17 = .ok (.iload_n 1, 1) := by decide +kernel
theorem d_M_tells_18 : decode b_M_tells 18 = .ok (.iaload, 1) := by decide +kernel
theorem d_M_tells_19 : decode b_M_tells 19 = .ok (.iadd, 1) := by decide +kernel
theorem d_M_tells_20 : decode b_M_tells 20 = .ok (.iconst 4, 1) := by decide +kernel
theorem d_M_tells_21 : decode b_M_tells 21 = .ok (.isub, 1) := by decide +kernel
theorem d_M_tells_22 : decode b_M_tells 22 = .ok (.istore_n 3, 1) := by decide +kernel
theorem d_M_tells_23 : decode b_M_tells 23 = .ok (.aload_n 0, 1) := by decide +kernel
theorem d_M_tells_24 : decode b_M_tells 24 = .ok (.getfield 22, 3) := by decide +kernel
theorem d_M_tells_27 : decode b_M_tells 27 = .ok (.iload_n 1, 1) := by decide +kernel
theorem d_M_tells_28 : decode b_M_tells 28 = .ok (.baload, 1) := by decide +kernel
theorem d_M_tells_29 : decode b_M_tells 29 = .ok (.ifCond .eq 25, 3) := by decide +kernel
theorem d_M_tells_32 : decode b_M_tells 32 = .ok (.aload_n 0, 1) := by decide +kernel
theorem d_M_tells_33 : decode b_M_tells 33 = .ok (.getfield 29, 3) := by decide +kernel
theorem d_M_tells_36 : decode b_M_tells 36 = .ok (.iload_n 3, 1) := by decide +kernel
theorem d_M_tells_37 : decode b_M_tells 37 = .ok (.iconst 4, 1) := by decide +kernel
theorem d_M_tells_38 : decode b_M_tells 38 = .ok (.invokestatic 169, 3) := by decide +kernel
theorem d_M_tells_41 : decode b_M_tells 41 = .ok (.aload_n 0, 1) := by decide +kernel
theorem d_M_tells_42 : decode b_M_tells 42 = .ok (.getfield 29, 3) := by decide +kernel
theorem d_M_tells_45 : decode b_M_tells 45 = .ok (.iload_n 2, 1) := by decide +kernel
theorem d_M_tells_46 : decode b_M_tells 46 = .ok (.iload_n 3, 1) := by decide +kernel
theorem d_M_tells_47 : decode b_M_tells 47 = .ok (.invokestatic 128, 3) := by decide +kernel
theorem d_M_tells_50 : decode b_M_tells 50 = .ok (.lcmp, 1) := by decide +kernel
theorem d_M_tells_51 : decode b_M_tells 51 = .ok (.ifCond .eq 5, 3) := by decide +kernel
theorem d_M_tells_54 : decode b_M_tells 54 = .ok (.iconst 0, 1) := by decide +kernel
theorem d_M_tells_55 : decode b_M_tells 55 = .ok (.ireturn, 1) := by decide +kernel
theorem d_M_tells_56 : decode b_M_tells 56 = .ok (.iconst 0, 1) := by decide +kernel
theorem d_M_tells_57 : decode b_M_tells 57 = .ok (.istore 4, 2) := by decide +kernel
theorem d_M_tells_59 : decode b_M_tells 59 = .ok (.iload_n 2, 1) := by decide +kernel
theorem d_M_tells_60 : decode b_M_tells 60 = .ok (.istore 5, 2) := by decide +kernel
theorem d_M_tells_62 : decode b_M_tells 62 = .ok (.iload 5, 2) := by decide +kernel
theorem d_M_tells_64 : decode b_M_tells 64 = .ok (.iconst 5, 1) := by decide +kernel
theorem d_M_tells_65 : decode b_M_tells 65 = .ok (.iadd, 1) := by decide +kernel
theorem d_M_tells_66 : decode b_M_tells 66 = .ok (.iload_n 3, 1) := by decide +kernel
theorem d_M_tells_67 : decode b_M_tells 67 = .ok (.if_icmp .ge 123, 3) := by decide +kernel
theorem d_M_tells_70 : decode b_M_tells 70 = .ok (.aload_n 0, 1) := by decide +kernel
theorem d_M_tells_71 : decode b_M_tells 71 = .ok (.getfield 29, 3) := by decide +kernel
theorem d_M_tells_74 : decode b_M_tells 74 = .ok (.iload 5, 2) := by decide +kernel
theorem d_M_tells_76 : decode b_M_tells 76 = .ok (.iconst 2, 1) := by decide +kernel
theorem d_M_tells_77 : decode b_M_tells 77 = .ok (.iadd, 1) := by decide +kernel
theorem d_M_tells_78 : decode b_M_tells 78 = .ok (.iaload, 1) := by decide +kernel
theorem d_M_tells_79 : decode b_M_tells 79 = .ok (.istore 6, 2) := by decide +kernel
theorem d_M_tells_81 : decode b_M_tells 81 = .ok (.aload_n 0, 1) := by decide +kernel
theorem d_M_tells_82 : decode b_M_tells 82 = .ok (.getfield 29, 3) := by decide +kernel
theorem d_M_tells_85 : decode b_M_tells 85 = .ok (.iload 5, 2) := by decide +kernel
theorem d_M_tells_87 : decode b_M_tells 87 = .ok (.iconst 3, 1) := by decide +kernel
theorem d_M_tells_88 : decode b_M_tells 88 = .ok (.iadd, 1) := by decide +kernel
theorem d_M_tells_89 : decode b_M_tells 89 = .ok (.iaload, 1) := by decide +kernel
theorem d_M_tells_90 : decode b_M_tells 90 = .ok (.istore 7, 2) := by decide +kernel
theorem d_M_tells_92 : decode b_M_tells 92 = .ok (.iload 6, 2) := by decide +kernel
theorem d_M_tells_94 : decode b_M_tells 94 = .ok (.iconst 1, 1) := by decide +kernel
theorem d_M_tells_95 : decode b_M_tells 95 = .ok (.iconst 4, 1) := by decide +kernel
theorem d_M_tells_96 : decode b_M_tells 96 = .ok (.invokestatic 133, 3) := by decide +kernel
theorem d_M_tells_99 : decode b_M_tells 99 = .ok (.ifCond .eq 54, 3) := by decide +kernel
theorem d_M_tells_102 : decode b_M_tells 102 = .ok (.iload 7, 2) := by decide +kernel
theorem d_M_tells_104 : decode b_M_tells 104 = .ok (.bipush 8, 2) := by decide +kernel
theorem d_M_tells_106 : decode b_M_tells 106 = .ok (.if_icmp .gt 47, 3) := by decide +kernel
theorem d_M_tells_109 : decode b_M_tells 109 = .ok (.aload_n 0, 1) := by decide +kernel
theorem d_M_tells_110 : decode b_M_tells 110 = .ok (.getfield 29, 3) := by decide +kernel
theorem d_M_tells_113 : decode b_M_tells 113 = .ok (.iload 5, 2) := by decide +kernel
theorem d_M_tells_115 : decode b_M_tells 115 = .ok (.iconst 4, 1) := by decide +kernel
theorem d_M_tells_116 : decode b_M_tells 116 = .ok (.iadd, 1) := by decide +kernel
theorem d_M_tells_117 : decode b_M_tells 117 = .ok (.iaload, 1) := by decide +kernel
theorem d_M_tells_118 : decode b_M_tells 118 = .ok (.iload 4, 2) := by decide +kernel
theorem d_M_tells_120 : decode b_M_tells 120 = .ok (.if_icmp .ne 33, 3) := by decide +kernel
theorem d_M_tells_123 : decode b_M_tells 123 = .ok (.iload 5, 2) := by decide +kernel
theorem d_M_tells_125 : decode b_M_tells 125 = .ok (.iconst 5, 1) := by decide +kernel
theorem d_M_tells_126 : decode b_M_tells 126 = .ok (.iadd, 1) := by decide +kernel
theorem d_M_tells_127 : decode b_M_tells 127 = .ok (.iload 6, 2) := by decide +kernel
theorem d_M_tells_129 : decode b_M_tells 129 = .ok (.iadd, 1) := by decide +kernel
theorem d_M_tells_130 : decode b_M_tells 130 = .ok (.iload_n 3, 1) := by decide +kernel
theorem d_M_tells_131 : decode b_M_tells 131 = .ok (.if_icmp .gt 22, 3) := by decide +kernel
theorem d_M_tells_134 : decode b_M_tells 134 = .ok (.iload 4, 2) := by decide +kernel
theorem d_M_tells_136 : decode b_M_tells 136 = .ok (.iload 6, 2) := by decide +kernel
theorem d_M_tells_138 : decode b_M_tells 138 = .ok (.iload 7, 2) := by decide +kernel
theorem d_M_tells_140 : decode b_M_tells 140 = .ok (.invokestatic 81, 3) := by decide +kernel
theorem d_M_tells_143 : decode b_M_tells 143 = .ok (.iadd, 1) := by decide +kernel
theorem d_M_tells_144 : decode b_M_tells 144 = .ok (.aload_n 0, 1) := by decide +kernel
theorem d_M_tells_145 : decode b_M_tells 145 = .ok (.getfield 13, 3) := by decide +kernel
theorem d_M_tells_148 : decode b_M_tells 148 = .ok (.iload_n 1, 1) := by decide +kernel
theorem d_M_tells_149 : decode b_M_tells 149 = .ok (.iaload, 1) := by decide +kernel
theorem d_M_tells_150 : decode b_M_tells 150 = .ok (.if_icmp .le 5, 3) := by decide +kernel
theorem d_M_tells_153 : decode b_M_tells 153 = .ok (.iconst 0, 1) := by decide +kernel
theorem d_M_tells_154 : decode b_M_tells 154 = .ok (.ireturn, 1) := by decide +kernel
theorem d_M_tells_155 : decode b_M_tells 155 = .ok (.aload_n 0, 1) := by decide +kernel
theorem d_M_tells_156 : decode b_M_tells 156 = .ok (.iload_n 1, 1) := by decide +kernel
theorem d_M_tells_157 : decode b_M_tells 157 = .ok (.iload 4, 2) := by decide +kernel
theorem d_M_tells_159 : decode b_M_tells 159 = .ok (.iload 6, 2) := by decide +kernel
theorem d_M_tells_161 : decode b_M_tells 161 = .ok (.iload 7, 2) := by decide +kernel
theorem d_M_tells_163 : decode b_M_tells 163 = .ok (.invokevirtual 117, 3) := by decide +kernel
theorem d_M_tells_166 : decode b_M_tells 166 = .ok (.iload 4, 2) := by decide +kernel
theorem d_M_tells_168 : decode b_M_tells 168 = .ok (.iload 6, 2) := by decide +kernel
theorem d_M_tells_170 : decode b_M_tells 170 = .ok (.iload 7, 2) := by decide +kernel
theorem d_M_tells_172 : decode b_M_tells 172 = .ok (.invokestatic 81, 3) := by decide +kernel
theorem d_M_tells_175 : decode b_M_tells 175 = .ok (.iadd, 1) := by decide +kernel
theorem d_M_tells_176 : decode b_M_tells 176 = .ok (.istore 4, 2) := by decide +kernel
theorem d_M_tells_178 : decode b_M_tells 178 = .ok (.iload 5, 2) := by decide +kernel
theorem d_M_tells_180 : decode b_M_tells 180 = .ok (.iconst 5, 1) := by decide +kernel
theorem d_M_tells_181 : decode b_M_tells 181 = .ok (.iadd, 1) := by decide +kernel
theorem d_M_tells_182 : decode b_M_tells 182 = .ok (.iload 6, 2) := by decide +kernel
theorem d_M_tells_184 : decode b_M_tells 184 = .ok (.iadd, 1) := by decide +kernel
theorem d_M_tells_185 : decode b_M_tells 185 = .ok (.istore 5, 2) := by decide +kernel
theorem d_M_tells_187 : decode b_M_tells 187 = .ok (.goto (-125), 3) := by decide +kernel
theorem d_M_tells_190 : decode b_M_tells 190 = .ok (.iload 5, 2) := by decide +kernel
theorem d_M_tells_192 : decode b_M_tells 192 = .ok (.iload_n 3, 1) := by decide +kernel
theorem d_M_tells_193 : decode b_M_tells 193 = .ok (.if_icmp .ne 18, 3) := by decide +kernel
theorem d_M_tells_196 : decode b_M_tells 196 = .ok (.iload 4, 2) := by decide +kernel
theorem d_M_tells_198 : decode b_M_tells 198 = .ok (.aload_n 0, 1) := by decide +kernel
theorem d_M_tells_199 : decode b_M_tells 199 = .ok (.getfield 13, 3) := by decide +kernel
theorem d_M_tells_202 : decode b_M_tells 202 = .ok (.iload_n 1, 1) := by decide +kernel
theorem d_M_tells_203 : decode b_M_tells 203 = .ok (.iaload, 1) := by decide +kernel
theorem d_M_tells_204 : decode b_M_tells 204 = .ok (.if_icmp .ne 7, 3) := by decide +kernel
theorem d_M_tells_207 : decode b_M_tells 207 = .ok (.iconst 1, 1) := by decide +kernel
theorem d_M_tells_208 : decode b_M_tells 208 = .ok (.goto 4, 3) := by decide +kernel
theorem d_M_tells_211 : decode b_M_tells 211 = .ok (.iconst 0, 1) := by decide +kernel
theorem d_M_tells_212 : decode b_M_tells 212 = .ok (.ireturn, 1) := by decide +kernel
theorem d_M_isRecord_0 : decode b_M_isRecord 0 = .ok (.iload_n 2, 1) := by decide +kernel
theorem d_M_isRecord_1 : decode b_M_isRecord 1 = .ok (.bipush 8, 2) := by decide +kernel
theorem d_M_isRecord_3 : decode b_M_isRecord 3 = .ok (.iadd, 1) := by decide +kernel
theorem d_M_isRecord_4 : decode b_M_isRecord 4 = .ok (.aload_n 0, 1) := by decide +kernel
theorem d_M_isRecord_5 : decode b_M_isRecord 5 = .ok (.getfield 13, 3) := by decide +kernel
theorem d_M_isRecord_8 : decode b_M_isRecord 8 = .ok (.iload_n 1, 1) := by decide +kernel
theorem d_M_isRecord_9 : decode b_M_isRecord 9 = .ok (.iaload, 1) := by decide +kernel
theorem d_M_isRecord_10 : decode b_M_isRecord 10 = .ok (.if_icmp .le 5, 3) := by decide +kernel
theorem d_M_isRecord_13 : decode b_M_isRecord 13 = .ok (.iconst 0, 1) := by decide +kernel
theorem d_M_isRecord_14 : decode b_M_isRecord 14 = .ok (.ireturn, 1) := by decide +kernel
theorem d_M_isRecord_15 : decode b_M_isRecord 15 = .ok (.bipush 100, 2) := by decide +kernel
theorem d_M_isRecord_17 : decode b_M_isRecord 17 = .ok (.iload_n 1, 1) := by decide +kernel
theorem d_M_isRecord_18 : decode b_M_isRecord 18 = .ok (.imul, 1) := by decide +kernel
theorem d_M_isRecord_19 : decode b_M_isRecord 19 = .ok (.iload_n 2, 1) := by decide +kernel
theorem d_M_isRecord_20 : decode b_M_isRecord 20 = .ok (.iadd, 1) := by decide +kernel
theorem d_M_isRecord_21 : decode b_M_isRecord 21 = .ok (.istore_n 3, 1) := by decide +kernel
theorem d_M_isRecord_22 : decode b_M_isRecord 22 = .ok (.aload_n 0, 1) := by decide +kernel
theorem d_M_isRecord_23 : decode b_M_isRecord 23 = .ok (.getfield 19, 3) := by decide +kernel
theorem d_M_isRecord_26 : decode b_M_isRecord 26 = .ok (.iload_n 3, 1) := by decide +kernel
theorem d_M_isRecord_27 : decode b_M_isRecord 27 = .ok (.bipush 6, 2) := by decide +kernel
theorem d_M_isRecord_29 : decode b_M_isRecord 29 = .ok (.iadd, 1) := by decide +kernel
theorem d_M_isRecord_30 : decode b_M_isRecord 30 = .ok (.iaload, 1) := by decide +kernel
theorem d_M_isRecord_31 : decode b_M_isRecord 31 = .ok (.istore 4, 2) := by decide +kernel
theorem d_M_isRecord_33 : decode b_M_isRecord 33 = .ok (.aload_n 0, 1) := by decide +kernel
theorem d_M_isRecord_34 : decode b_M_isRecord 34 = .ok (.getfield 19, 3) := by decide +kernel
theorem d_M_isRecord_37 : decode b_M_isRecord 37 = .ok (.iload_n 3, 1) := by decide +kernel
theorem d_M_isRecord_38 : decode b_M_isRecord 38 = .ok (.bipush 7, 2) := by decide +kernel
theorem d_M_isRecord_40 : decode b_M_isRecord 40 = .ok (.iadd, 1) := by decide +kernel
theorem d_M_isRecord_41 : decode b_M_isRecord 41 = .ok (.iaload, 1) := by decide +kernel
theorem d_M_isRecord_42 : decode b_M_isRecord 42 = .ok (.istore 5, 2) := by decide +kernel
theorem d_M_isRecord_44 : decode b_M_isRecord 44 = .ok (.iload 4, 2) := by decide +kernel
theorem d_M_isRecord_46 : decode b_M_isRecord 46 = .ok (.iconst 1, 1) := by decide +kernel
theorem d_M_isRecord_47 : decode b_M_isRecord 47 = .ok (.iconst 4, 1) := by decide +kernel
theorem d_M_isRecord_48 : decode b_M_isRecord 48 = .ok (.invokestatic 133, 3) := by decide +kernel
theorem d_M_isRecord_51 : decode b_M_isRecord 51 = .ok (.ifCond .eq 18, 3) := by decide +kernel
theorem d_M_isRecord_54 : decode b_M_isRecord 54 = .ok (.iload 5, 2) := by decide +kernel
theorem d_M_isRecord_56 : decode b_M_isRecord 56 = .ok (.bipush 8, 2) := by decide +kernel
theorem d_M_isRecord_58 : decode b_M_isRecord 58 = .ok (.if_icmp .le 13, 3) := by decide +kernel
theorem d_M_isRecord_61 : decode b_M_isRecord 61 = .ok (.iload 5, 2) := by decide +kernel
theorem d_M_isRecord_63 : decode b_M_isRecord 63 = .ok (.sipush 255, 3) := by decide +kernel
theorem d_M_isRecord_66 : decode b_M_isRecord 66 = .ok (.if_icmp .eq 5, 3) := by decide +kernel
theorem d_M_isRecord_69 : decode b_M_isRecord 69 = .ok (.iconst 0, 1) := by decide +kernel
theorem d_M_isRecord_70 : decode b_M_isRecord 70 = .ok (.ireturn, 1) := by decide +kernel
theorem d_M_isRecord_71 : decode b_M_isRecord 71 = .ok (.iload 4, 2) := by decide +kernel
theorem d_M_isRecord_73 : decode b_M_isRecord 73 = .ok (.iload 5, 2) := by decide +kernel
theorem d_M_isRecord_75 : decode b_M_isRecord 75 = .ok (.invokestatic 81, 3) := by decide +kernel
theorem d_M_isRecord_78 : decode b_M_isRecord 78 = .ok (.istore 6, 2) := by decide +kernel
theorem d_M_isRecord_80 : decode b_M_isRecord 80 = .ok (.iload_n 2, 1) := by decide +kernel
theorem d_M_isRecord_81 : decode b_M_isRecord 81 = .ok (.iload 6, 2) := by decide +kernel
theorem d_M_isRecord_83 : decode b_M_isRecord 83 = .ok (.iadd, 1) := by decide +kernel
theorem d_M_isRecord_84 : decode b_M_isRecord 84 = .ok (.aload_n 0, 1) := by decide +kernel
theorem d_M_isRecord_85 : decode b_M_isRecord 85 = .ok (.getfield 13, 3) := by decide +kernel
theorem d_M_isRecord_88 : decode b_M_isRecord 88 = .ok (.iload_n 1, 1) := by decide +kernel
theorem d_M_isRecord_89 : decode b_M_isRecord 89 = .ok (.iaload, 1) := by decide +kernel
theorem d_M_isRecord_90 : decode b_M_isRecord 90 = .ok (.if_icmp .gt 34, 3) := by decide +kernel
theorem d_M_isRecord_93 : decode b_M_isRecord 93 = .ok (.aload_n 0, 1) := by decide +kernel
theorem d_M_isRecord_94 : decode b_M_isRecord 94 = .ok (.getfield 19, 3) := by decide +kernel
theorem d_M_isRecord_97 : decode b_M_isRecord 97 = .ok (.iload_n 3, 1) := by decide +kernel
theorem d_M_isRecord_98 : decode b_M_isRecord 98 = .ok (.iconst 4, 1) := by decide +kernel
theorem d_M_isRecord_99 : decode b_M_isRecord 99 = .ok (.invokestatic 169, 3) := by decide +kernel
theorem d_M_isRecord_102 : decode b_M_isRecord 102 = .ok (.aload_n 0, 1) := by decide +kernel
theorem d_M_isRecord_103 : decode b_M_isRecord 103 = .ok (.getfield 19, 3) := by decide +kernel
theorem d_M_isRecord_106 : decode b_M_isRecord 106 = .ok (.iload_n 3, 1) := by decide +kernel
theorem d_M_isRecord_107 : decode b_M_isRecord 107 = .ok (.iconst 4, 1) := by decide +kernel
theorem d_M_isRecord_108 : decode b_M_isRecord 108 = .ok (.iadd, 1) := by decide +kernel
theorem d_M_isRecord_109 : decode b_M_isRecord 109 = .ok (.iload_n 3, 1) := by decide +kernel
theorem d_M_isRecord_110 : decode b_M_isRecord 110 = .ok (.iload 6, 2) := by decide +kernel
theorem d_M_isRecord_112 : decode b_M_isRecord 112 = .ok (.iadd, 1) := by decide +kernel
theorem d_M_isRecord_113 : decode b_M_isRecord 113 = .ok (.invokestatic 128, 3) := by decide +kernel
theorem d_M_isRecord_116 : decode b_M_isRecord 116 = .ok (.lcmp, 1) := by decide +kernel
theorem d_M_isRecord_117 : decode b_M_isRecord 117 = .ok (.ifCond .ne 7, 3) := by decide +kernel
theorem d_M_isRecord_120 : decode b_M_isRecord 120 = .ok (.iconst 1, 1) := by decide +kernel
theorem d_M_isRecord_121 : decode b_M_isRecord 121 = .ok (.goto 4, 3) := by decide +kernel
theorem d_M_isRecord_124 : decode b_M_isRecord 124 = .ok (.iconst 0, 1) := by decide +kernel
theorem d_M_isRecord_125 : decode b_M_isRecord 125 = .ok (.ireturn, 1) := by decide +kernel
theorem d_M_openRecords_0 : decode b_M_openRecords 0 = .ok (.aload_n 0, 1) := by decide +kernel
theorem d_M_openRecords_1 : decode b_M_openRecords 1 = .ok (.getfield 32, 3) := by decide +kernel
theorem d_M_openRecords_4 : decode b_M_openRecords 4 = .ok (.iload_n 1, 1) := by decide +kernel
theorem d_M_openRecords_5 : decode b_M_openRecords 5 = .ok (.iconst 0, 1) := by decide +kernel
theorem d_M_openRecords_6 : decode b_M_openRecords 6 = .ok (.iastore, 1) := by decide +kernel
theorem d_M_openRecords_7 : decode b_M_openRecords 7 = .ok (.iconst 0, 1) := by decide +kernel
theorem d_M_openRecords_8 : decode b_M_openRecords 8 = .ok (.istore_n 2, 1) := by decide +kernel
theorem d_M_openRecords_9 : decode b_M_openRecords 9 = .ok (.aload_n 0, 1) := by decide +kernel
theorem d_M_openRecords_10 : decode b_M_openRecords 10 = .ok (.iload_n 1, 1) := by decide +kernel
theorem d_M_openRecords_11 : decode b_M_openRecords 11 = .ok (.iload_n 2, 1) := by decide +kernel
theorem d_M_openRecords_12 : decode b_M_openRecords 12 = .ok (.invokevirtual 178, 3) := by decide +kernel
theorem d_M_openRecords_15 : decode b_M_openRecords 15 = .ok (.ifCond .eq 121, 3) := by decide +kernel
theorem d_M_openRecords_18 : decode b_M_openRecords 18 = .ok (.bipush 100, 2) := by decide +kernel
theorem d_M_openRecords_20 : decode b_M_openRecords 20 = .ok (.iload_n 1, 1) := by decide +kernel
theorem d_M_openRecords_21 : decode b_M_openRecords 21 = .ok (.imul, 1) := by decide +kernel
theorem d_M_openRecords_22 : decode b_M_openRecords 22 = .ok (.iload_n 2, 1) := by decide +kernel
theorem d_M_openRecords_23 : decode b_M_openRecords 23 = .ok (.iadd, 1) := by decide +kernel
theorem d_M_openRecords_24 : decode b_M_openRecords 24 = .ok (.istore_n 3, 1) := by decide +kernel
theorem d_M_openRecords_25 : decode b_M_openRecords 25 = .ok (.aload_n 0, 1) := by decide +kernel
theorem d_M_openRecords_26 : decode b_M_openRecords 26 = .ok (.getfield 19, 3) := by decide +kernel
theorem d_M_openRecords_29 : decode b_M_openRecords 29 = .ok (.iload_n 3, 1) := by decide +kernel
theorem d_M_openRecords_30 : decode b_M_openRecords 30 = .ok (.bipush 6, 2) := by decide +kernel
theorem d_M_openRecords_32 : decode b_M_openRecords 32 = .ok (.iadd, 1) := by decide +kernel
theorem d_M_openRecords_33 : decode b_M_openRecords 33 = .ok (.iaload, 1) := by decide +kernel
theorem d_M_openRecords_34 : decode b_M_openRecords 34 = .ok (.istore 4, 2) := by decide +kernel
theorem d_M_openRecords_36 : decode b_M_openRecords 36 = .ok (.aload_n 0, 1) := by decide +kernel
theorem d_M_openRecords_37 : decode b_M_openRecords 37 = .ok (.getfield 19, 3) := by decide +kernel
theorem d_M_openRecords_40 : decode b_M_openRecords 40 = .ok (.iload_n 3, 1) := by decide +kernel
theorem d_M_openRecords_41 : decode b_M_openRecords 41 = .ok (.bipush 8, 2) := by decide +kernel
theorem d_M_openRecords_43 : decode b_M_openRecords 43 = .ok (.iadd, 1) := by decide +kernel
theorem d_M_openRecords_44 : decode b_M_openRecords 44 = .ok (.iload 4, 2) := by decide +kernel
theorem d_M_openRecords_46 : decode b_M_openRecords 46 = .ok (.invokestatic 169, 3) := by decide +kernel
theorem d_M_openRecords_49 : decode b_M_openRecords 49 = .ok (.lstore 5, 2) := by decide +kernel
theorem d_M_openRecords_51 : decode b_M_openRecords 51 = .ok (.aload_n 0, 1) := by decide +kernel
theorem d_M_openRecords_52 : decode b_M_openRecords 52 = .ok (.iload_n 1, 1) := by decide +kernel
theorem d_M_openRecords_53 : decode b_M_openRecords 53 = .ok (.iload_n 2, 1) := by decide +kernel
theorem d_M_openRecords_54 : decode b_M_openRecords 54 = .ok (.iload 4, 2) := by decide +kernel
theorem d_M_openRecords_56 : decode b_M_openRecords 56 = .ok (.aload_n 0, 1) := by decide +kernel
theorem d_M_openRecords_57 : decode b_M_openRecords 57 = .ok (.getfield 19, 3) := by decide +kernel
theorem d_M_openRecords_60 : decode b_M_openRecords 60 = .ok (.iload_n 3, 1) := by decide +kernel
theorem d_M_openRecords_61 : decode b_M_openRecords 61 = .ok (.bipush 7, 2) := by decide +kernel
theorem d_M_openRecords_63 : decode b_M_openRecords 63 = .ok (.iadd, 1) := by decide +kernel
theorem d_M_openRecords_64 : decode b_M_openRecords 64 = .ok (.iaload, 1) := by decide +kernel
theorem d_M_openRecords_65 : decode b_M_openRecords 65 = .ok (.invokevirtual 117, 3) := by decide +kernel
theorem d_M_openRecords_68 : decode b_M_openRecords 68 = .ok (.aload_n 0, 1) := by decide +kernel
theorem d_M_openRecords_69 : decode b_M_openRecords 69 = .ok (.getfield 19, 3) := by decide +kernel
theorem d_M_openRecords_72 : decode b_M_openRecords 72 = .ok (.iload_n 3, 1) := by decide +kernel
theorem d_M_openRecords_73 : decode b_M_openRecords 73 = .ok (.bipush 7, 2) := by decide +kernel
theorem d_M_openRecords_75 : decode b_M_openRecords 75 = .ok (.iadd, 1) := by decide +kernel
theorem d_M_openRecords_76 : decode b_M_openRecords 76 = .ok (.iaload, 1) := by decide +kernel
theorem d_M_openRecords_77 : decode b_M_openRecords 77 = .ok (.sipush 255, 3) := by decide +kernel
theorem d_M_openRecords_80 : decode b_M_openRecords 80 = .ok (.if_icmp .ne 14, 3) := by decide +kernel
theorem d_M_openRecords_83 : decode b_M_openRecords 83 = .ok (.aload_n 0, 1) := by decide +kernel
theorem d_M_openRecords_84 : decode b_M_openRecords 84 = .ok (.lload 5, 2) := by decide +kernel
theorem d_M_openRecords_86 : decode b_M_openRecords 86 = .ok (.iload 4, 2) := by decide +kernel
theorem d_M_openRecords_88 : decode b_M_openRecords 88 = .ok (.invokevirtual 155, 3) := by decide +kernel
theorem d_M_openRecords_91 : decode b_M_openRecords 91 = .ok (.goto 25, 3) := by decide +kernel
theorem d_M_openRecords_94 : decode b_M_openRecords 94 = .ok (.aload_n 0, 1) := by decide +kernel
theorem d_M_openRecords_95 : decode b_M_openRecords 95 = .ok (.lload 5, 2) := by decide +kernel
theorem d_M_openRecords_97 : decode b_M_openRecords 97 = .ok (.iload 4, 2) := by decide +kernel
theorem d_M_openRecords_99 : decode b_M_openRecords 99 = .ok (.aload_n 0, 1) := by decide +kernel
theorem d_M_openRecords_100 : decode b_M_openRecords 100 = .ok (.getfield 7, 3) := by decide +kernel
theorem d_M_openRecords_103 : decode b_M_openRecords 103 = .ok (.iload_n 1, 1) := by decide +kernel
theorem d_M_openRecords_104 : decode b_M_openRecords 104 = .ok (.iaload, 1) := by decide +kernel
theorem d_M_openRecords_105 : decode b_M_openRecords 105 = .ok (.aload_n 0, 1) := by decide +kernel
theorem d_M_openRecords_106 : decode b_M_openRecords 106 = .ok (.getfield 32, 3) := by decide +kernel
theorem d_M_openRecords_109 : decode b_M_openRecords 109 = .ok (.iload_n 1, 1) := by decide +kernel
theorem d_M_openRecords_110 : decode b_M_openRecords 110 = .ok (.iaload, 1) := by decide +kernel
theorem d_M_openRecords_111 : decode b_M_openRecords 111 = .ok (.iconst 1, 1) := by decide +kernel
theorem d_M_openRecords_112 : decode b_M_openRecords 112 = .ok (.isub, 1) := by decide +kernel
theorem d_M_openRecords_113 : decode b_M_openRecords 113 = .ok (.invokevirtual 151, 3) := by decide +kernel
theorem d_M_openRecords_116 : decode b_M_openRecords 116 = .ok (.iload_n 2, 1) := by decide +kernel
theorem d_M_openRecords_117 : decode b_M_openRecords 117 = .ok (.iload 4, 2) := by decide +kernel
theorem d_M_openRecords_119 : decode b_M_openRecords 119 = .ok (.aload_n 0, 1) := by decide +kernel
theorem d_M_openRecords_120 : decode b_M_openRecords 120 = .ok (.getfield 19, 3) := by decide +kernel
theorem d_M_openRecords_123 : decode b_M_openRecords 123 = .ok (.iload_n 3, 1) := by decide +kernel
theorem d_M_openRecords_124 : decode b_M_openRecords 124 = .ok (.bipush 7, 2) := by decide +kernel
theorem d_M_openRecords_126 : decode b_M_openRecords 126 = .ok (.iadd, 1) := by decide +kernel
theorem d_M_openRecords_127 : decode b_M_openRecords 127 = .ok (.iaload, 1) := by decide +kernel
theorem d_M_openRecords_128 : decode b_M_openRecords 128 = .ok (.invokestatic 81, 3) := by decide +kernel
theorem d_M_openRecords_131 : decode b_M_openRecords 131 = .ok (.iadd, 1) := by decide +kernel
theorem d_M_openRecords_132 : decode b_M_openRecords 132 = .ok (.istore_n 2, 1) := by decide +kernel
theorem d_M_openRecords_133 : decode b_M_openRecords 133 = .ok (.goto (-124), 3) := by decide +kernel
theorem d_M_openRecords_136 : decode b_M_openRecords 136 = .ok (.aload_n 0, 1) := by decide +kernel
theorem d_M_openRecords_137 : decode b_M_openRecords 137 = .ok (.getfield 13, 3) := by decide +kernel
theorem d_M_openRecords_140 : decode b_M_openRecords 140 = .ok (.iload_n 1, 1) := by decide +kernel
theorem d_M_openRecords_141 : decode b_M_openRecords 141 = .ok (.iload_n 2, 1) := by decide +kernel
theorem d_M_openRecords_142 : decode b_M_openRecords 142 = .ok (.iastore, 1) := by decide +kernel
theorem d_M_openRecords_143 : decode b_M_openRecords 143 = .ok (.return_, 1) := by decide +kernel
theorem d_M_openHint_0 : decode b_M_openHint 0 = .ok (.bipush 120, 2) := by decide +kernel
theorem d_M_openHint_2 : decode b_M_openHint 2 = .ok (.iload_n 1, 1) := by decide +kernel
theorem d_M_openHint_3 : decode b_M_openHint 3 = .ok (.imul, 1) := by decide +kernel
theorem d_M_openHint_4 : decode b_M_openHint 4 = .ok (.istore_n 2, 1) := by decide +kernel
theorem d_M_openHint_5 : decode b_M_openHint 5 = .ok (.iconst 0, 1) := by decide +kernel
theorem d_M_openHint_6 : decode b_M_openHint 6 = .ok (.istore_n 3, 1) := by decide +kernel
theorem d_M_openHint_7 : decode b_M_openHint 7 = .ok (.iload_n 3, 1) := by decide +kernel
theorem d_M_openHint_8 : decode b_M_openHint 8 = .ok (.aload_n 0, 1) := by decide +kernel
theorem d_M_openHint_9 : decode b_M_openHint 9 = .ok (.getfield 32, 3) := by decide +kernel
theorem d_M_openHint_12 : decode b_M_openHint 12 = .ok (.iload_n 1, 1) := by decide +kernel
theorem d_M_openHint_13 : decode b_M_openHint 13 = .ok (.iaload, 1) := by decide +kernel
theorem d_M_openHint_14 : decode b_M_openHint 14 = .ok (.if_icmp .ge 54, 3) := by decide +kernel
theorem d_M_openHint_17 : decode b_M_openHint 17 = .ok (.aload_n 0, 1) := by decide +kernel
theorem d_M_openHint_18 : decode b_M_openHint 18 = .ok (.getfield 38, 3) := by decide +kernel
theorem d_M_openHint_21 : decode b_M_openHint 21 = .ok (.bipush 12, 2) := by decide +kernel
theorem d_M_openHint_23 : decode b_M_openHint 23 = .ok (.iload_n 1, 1) := by decide +kernel
theorem d_M_openHint_24 : decode b_M_openHint 24 = .ok (.imul, 1) := by decide +kernel
theorem d_M_openHint_25 : decode b_M_openHint 25 = .ok (.iload_n 3, 1) := by decide +kernel
theorem d_M_openHint_26 : decode b_M_openHint 26 = .ok (.iadd, 1) := by decide +kernel
theorem d_M_openHint_27 : decode b_M_openHint 27 = .ok (.iaload, 1) := by decide +kernel
theorem d_M_openHint_28 : decode b_M_openHint 28 = .ok (.istore 4, 2) := by decide +kernel
theorem d_M_openHint_30 : decode b_M_openHint 30 = .ok (.aload_n 0, 1) := by decide +kernel
theorem d_M_openHint_31 : decode b_M_openHint 31 = .ok (.aload_n 0, 1) := by decide +kernel
theorem d_M_openHint_32 : decode b_M_openHint 32 = .ok (.getfield 29, 3) := by decide +kernel
theorem d_M_openHint_35 : decode b_M_openHint 35 = .ok (.iload_n 2, 1) := by decide +kernel
theorem d_M_openHint_36 : decode b_M_openHint 36 = .ok (.iconst 5, 1) := by decide +kernel
theorem d_M_openHint_37 : decode b_M_openHint 37 = .ok (.iadd, 1) := by decide +kernel
theorem d_M_openHint_38 : decode b_M_openHint 38 = .ok (.iload 4, 2) := by decide +kernel
theorem d_M_openHint_40 : decode b_M_openHint 40 = .ok (.invokestatic 169, 3) := by decide +kernel
theorem d_M_openHint_43 : decode b_M_openHint 43 = .ok (.iload 4, 2) := by decide +kernel
theorem d_M_openHint_45 : decode b_M_openHint 45 = .ok (.aload_n 0, 1) := by decide +kernel
theorem d_M_openHint_46 : decode b_M_openHint 46 = .ok (.getfield 7, 3) := by decide +kernel
theorem d_M_openHint_49 : decode b_M_openHint 49 = .ok (.iload_n 1, 1) := by decide +kernel
theorem d_M_openHint_50 : decode b_M_openHint 50 = .ok (.iaload, 1) := by decide +kernel
theorem d_M_openHint_51 : decode b_M_openHint 51 = .ok (.iload_n 3, 1) := by decide +kernel
theorem d_M_openHint_52 : decode b_M_openHint 52 = .ok (.invokevirtual 151, 3) := by decide +kernel
theorem d_M_openHint_55 : decode b_M_openHint 55 = .ok (.iload_n 2, 1) := by decide +kernel
theorem d_M_openHint_56 : decode b_M_openHint 56 = .ok (.iconst 5, 1) := by decide +kernel
theorem d_M_openHint_57 : decode b_M_openHint 57 = .ok (.iadd, 1) := by decide +kernel
theorem d_M_openHint_58 : decode b_M_openHint 58 = .ok (.iload 4, 2) := by decide +kernel
theorem d_M_openHint_60 : decode b_M_openHint 60 = .ok (.iadd, 1) := by decide +kernel
theorem d_M_openHint_61 : decode b_M_openHint 61 = .ok (.istore_n 2, 1) := by decide +kernel
theorem d_M_openHint_62 : decode b_M_openHint 62 = .ok (.iinc 3 1, 3) := by decide +kernel
theorem d_M_openHint_65 : decode b_M_openHint 65 = .ok (.goto (-58), 3) := by decide +kernel
theorem d_M_openHint_68 : decode b_M_openHint 68 = .ok (.return_, 1) := by decide +kernel
theorem d_M_open_0 : decode b_M_open 0 = .ok (.aload_n 0, 1) := by decide +kernel
theorem d_M_open_1 : decode b_M_open 1 = .ok (.iconst 0, 1) := by decide +kernel
theorem d_M_open_2 : decode b_M_open 2 = .ok (.putfield 63, 3) := by decide +kernel
theorem d_M_open_5 : decode b_M_open 5 = .ok (.aload_n 0, 1) := by decide +kernel
theorem d_M_open_6 : decode b_M_open 6 = .ok (.iconst 0, 1) := by decide +kernel
theorem d_M_open_7 : decode b_M_open 7 = .ok (.putfield 85, 3) := by decide +kernel
theorem d_M_open_10 : decode b_M_open 10 = .ok (.iconst 0, 1) := by decide +kernel
theorem d_M_open_11 : decode b_M_open 11 = .ok (.istore_n 2, 1) := by decide +kernel
theorem d_M_open_12 : decode b_M_open 12 = .ok (.iload_n 2, 1) := by decide +kernel
theorem d_M_open_13 : decode b_M_open 13 = .ok (.aload_n 0, 1) := by decide +kernel
theorem d_M_open_14 : decode b_M_open 14 = .ok (.getfield 99, 3) := by decide +kernel
theorem d_M_open_17 : decode b_M_open 17 = .ok (.if_icmp .ge 46, 3) := by decide +kernel
theorem d_M_open_20 : decode b_M_open 20 = .ok (.iload_n 1, 1) := by decide +kernel
theorem d_M_open_21 : decode b_M_open 21 = .ok (.ifCond .eq 19, 3) := by decide +kernel
theorem d_M_open_24 : decode b_M_open 24 = .ok (.aload_n 0, 1) := by decide +kernel
theorem d_M_open_25 : decode b_M_open 25 = .ok (.iload_n 2, 1) := by decide +kernel
theorem d_M_open_26 : decode b_M_open 26 = .ok (.invokevirtual 181, 3) := by decide +kernel
theorem d_M_open_29 : decode b_M_open 29 = .ok (.ifCond .eq 11, 3) := by decide +kernel
theorem d_M_open_32 : decode b_M_open 32 = .ok (.aload_n 0, 1) := by decide +kernel
theorem d_M_open_33 : decode b_M_open 33 = .ok (.iload_n 2, 1) := by decide +kernel
theorem d_M_open_34 : decode b_M_open 34 = .ok (.invokevirtual 184, 3) := by decide +kernel
theorem d_M_open_37 : decode b_M_open 37 = .ok (.goto 8, 3) := by decide +kernel
theorem d_M_open_40 : decode b_M_open 40 = .ok (.aload_n 0, 1) := by decide +kernel
theorem d_M_open_41 : decode b_M_open 41 = .ok (.iload_n 2, 1) := by decide +kernel
theorem d_M_open_42 : decode b_M_open 42 = .ok (.invokevirtual 187, 3) := by decide +kernel
theorem d_M_open_45 : decode b_M_open 45 = .ok (.aload_n 0, 1) := by decide +kernel
theorem d_M_open_46 : decode b_M_open 46 = .ok (.getfield 16, 3) := by decide +kernel
theorem d_M_open_49 : decode b_M_open 49 = .ok (.iload_n 2, 1) := by decide +kernel
theorem d_M_open_50 : decode b_M_open 50 = .ok (.aload_n 0, 1) := by decide +kernel
theorem d_M_open_51 : decode b_M_open 51 = .ok (.getfield 13, 3) := by decide +kernel
theorem d_M_open_54 : decode b_M_open 54 = .ok (.iload_n 2, 1) := by decide +kernel
theorem d_M_open_55 : decode b_M_open 55 = .ok (.iaload, 1) := by decide +kernel
theorem d_M_open_56 : decode b_M_open 56 = .ok (.iastore, 1) := by decide +kernel
theorem d_M_open_57 : decode b_M_open 57 = .ok (.iinc 2 1, 3) := by decide +kernel
theorem d_M_open_60 : decode b_M_open 60 = .ok (.goto (-48), 3) := by decide +kernel
theorem d_M_open_63 : decode b_M_open 63 = .ok (.aload_n 0, 1) := by decide +kernel
theorem d_M_open_64 : decode b_M_open 64 = .ok (.iconst 0, 1) := by decide +kernel
theorem d_M_open_65 : decode b_M_open 65 = .ok (.putfield 102, 3) := by decide +kernel
theorem d_M_open_68 : decode b_M_open 68 = .ok (.aload_n 0, 1) := by decide +kernel
theorem d_M_open_69 : decode b_M_open 69 = .ok (.iconst 0, 1) := by decide +kernel
theorem d_M_open_70 : decode b_M_open 70 = .ok (.putfield 175, 3) := by decide +kernel
theorem d_M_open_73 : decode b_M_open 73 = .ok (.aload_n 0, 1) := by decide +kernel
theorem d_M_open_74 : decode b_M_open 74 = .ok (.iconst 0, 1) := by decide +kernel
theorem d_M_open_75 : decode b_M_open 75 = .ok (.putfield 137, 3) := by decide +kernel
theorem d_M_open_78 : decode b_M_open 78 = .ok (.aload_n 0, 1) := by decide +kernel
theorem d_M_open_79 : decode b_M_open 79 = .ok (.getfield 85, 3) := by decide +kernel
theorem d_M_open_82 : decode b_M_open 82 = .ok (.ireturn, 1) := by decide +kernel
theorem d_M_skip_0 : decode b_M_skip 0 = .ok (.aload_n 0, 1) := by decide +kernel
theorem d_M_skip_1 : decode b_M_skip 1 = .ok (.getfield 190, 3) := by decide +kernel
theorem d_M_skip_4 : decode b_M_skip 4 = .ok (.aload_n 0, 1) := by decide +kernel
theorem d_M_skip_5 : decode b_M_skip 5 = .ok (.getfield 193, 3) := by decide +kernel
theorem d_M_skip_8 : decode b_M_skip 8 = .ok (.if_icmp .ge 37, 3) := by decide +kernel
theorem d_M_skip_11 : decode b_M_skip 11 = .ok (.aload_n 0, 1) := by decide +kernel
theorem d_M_skip_12 : decode b_M_skip 12 = .ok (.getfield 196, 3) := by decide +kernel
theorem d_M_skip_15 : decode b_M_skip 15 = .ok (.aload_n 0, 1) := by decide +kernel
theorem d_M_skip_16 : decode b_M_skip 16 = .ok (.getfield 32, 3) := by decide +kernel
theorem d_M_skip_19 : decode b_M_skip 19 = .ok (.aload_n 0, 1) := by decide +kernel
theorem d_M_skip_20 : decode b_M_skip 20 = .ok (.getfield 190, 3) := by decide +kernel
theorem d_M_skip_23 : decode b_M_skip 23 = .ok (.iaload, 1) := by decide +kernel
theorem d_M_skip_24 : decode b_M_skip 24 = .ok (.if_icmp .ne 21, 3) := by decide +kernel
theorem d_M_skip_27 : decode b_M_skip 27 = .ok (.aload_n 0, 1) := by decide +kernel
theorem d_M_skip_28 : decode b_M_skip 28 = .ok (.dup, 1) := by decide +kernel
theorem d_M_skip_29 : decode b_M_skip 29 = .ok (.getfield 190, 3) := by decide +kernel
theorem d_M_skip_32 : decode b_M_skip 32 = .ok (.iconst 1, 1) := by decide +kernel
theorem d_M_skip_33 : decode b_M_skip 33 = .ok (.iadd, 1) := by decide +kernel
theorem d_M_skip_34 : decode b_M_skip 34 = .ok (.putfield 190, 3) := by decide +kernel
theorem d_M_skip_37 : decode b_M_skip 37 = .ok (.aload_n 0, 1) := by decide +kernel
theorem d_M_skip_38 : decode b_M_skip 38 = .ok (.iconst 0, 1) := by decide +kernel
theorem d_M_skip_39 : decode b_M_skip 39 = .ok (.putfield 196, 3) := by decide +kernel
theorem d_M_skip_42 : decode b_M_skip 42 = .ok (.goto (-42), 3) := by decide +kernel
theorem d_M_skip_45 : decode b_M_skip 45 = .ok (.return_, 1) := by decide +kernel
theorem d_M_comeToNext_0 : decode b_M_comeToNext 0 = .ok (.aload_n 0, 1) := by decide +kernel
theorem d_M_comeToNext_1 : decode b_M_comeToNext 1 = .ok (.aload_n 0, 1) := by decide +kernel
theorem d_M_comeToNext_2 : decode b_M_comeToNext 2 = .ok (.getfield 7, 3) := by decide +kernel
theorem d_M_comeToNext_5 : decode b_M_comeToNext 5 = .ok (.aload_n 0, 1) := by decide +kernel
theorem d_M_comeToNext_6 : decode b_M_comeToNext 6 = .ok (.getfield 190, 3) := by decide +kernel
theorem d_M_comeToNext_9 : decode b_M_comeToNext 9 = .ok (.iaload, 1) := by decide +kernel
theorem d_M_comeToNext_10 : decode b_M_comeToNext 10 = .ok (.aload_n 0, 1) := by decide +kernel
theorem d_M_comeToNext_11 : decode b_M_comeToNext 11 = .ok (.getfield 196, 3) := by decide +kernel
theorem d_M_comeToNext_14 : decode b_M_comeToNext 14 = .ok (.invokevirtual 199, 3) := by decide +kernel
theorem d_M_comeToNext_17 : decode b_M_comeToNext 17 = .ok (.ifCond .lt 208, 3) := by decide +kernel
theorem d_M_comeToNext_20 : decode b_M_comeToNext 20 = .ok (.aload_n 0, 1) := by decide +kernel
theorem d_M_comeToNext_21 : decode b_M_comeToNext 21 = .ok (.aload_n 0, 1) := by decide +kernel
theorem d_M_comeToNext_22 : decode b_M_comeToNext 22 = .ok (.getfield 190, 3) := by decide +kernel
theorem d_M_comeToNext_25 : decode b_M_comeToNext 25 = .ok (.aload_n 0, 1) := by decide +kernel
theorem d_M_comeToNext_26 : decode b_M_comeToNext 26 = .ok (.getfield 196, 3) := by decide +kernel
theorem d_M_comeToNext_29 : decode b_M_comeToNext 29 = .ok (.invokevirtual 166, 3) := by decide +kernel
theorem d_M_comeToNext_32 : decode b_M_comeToNext 32 = .ok (.istore_n 1, 1) := by decide +kernel
theorem d_M_comeToNext_33 : decode b_M_comeToNext 33 = .ok (.aload_n 0, 1) := by decide +kernel
theorem d_M_comeToNext_34 : decode b_M_comeToNext 34 = .ok (.getfield 202, 3) := by decide +kernel
theorem d_M_comeToNext_37 : decode b_M_comeToNext 37 = .ok (.ifCond .eq 21, 3) := by decide +kernel
theorem d_M_comeToNext_40 : decode b_M_comeToNext 40 = .ok (.aload_n 0, 1) := by decide +kernel
theorem d_M_comeToNext_41 : decode b_M_comeToNext 41 = .ok (.getfield 13, 3) := by decide +kernel
theorem d_M_comeToNext_44 : decode b_M_comeToNext 44 = .ok (.iconst 5, 1) := by decide +kernel
theorem d_M_comeToNext_45 : decode b_M_comeToNext 45 = .ok (.aload_n 0, 1) := by decide +kernel
theorem d_M_comeToNext_46 : decode b_M_comeToNext 46 = .ok (.getfield 202, 3) := by decide +kernel
theorem d_M_comeToNext_49 : decode b_M_comeToNext 49 = .ok (.iadd, 1) := by decide +kernel
theorem d_M_comeToNext_50 : decode b_M_comeToNext 50 = .ok (.iaload, 1) := by decide +kernel
theorem d_M_comeToNext_51 : decode b_M_comeToNext 51 = .ok (.iload_n 1, 1) := by decide +kernel
theorem d_M_comeToNext_52 : decode b_M_comeToNext 52 = .ok (.iadd, 1) := by decide +kernel
theorem d_M_comeToNext_53 : decode b_M_comeToNext 53 = .ok (.bipush 100, 2) := by decide +kernel
theorem d_M_comeToNext_55 : decode b_M_comeToNext 55 = .ok (.if_icmp .le 24, 3) := by decide +kernel
theorem d_M_comeToNext_58 : decode b_M_comeToNext 58 = .ok (.aload_n 0, 1) := by decide +kernel
theorem d_M_comeToNext_59 : decode b_M_comeToNext 59 = .ok (.bipush 6, 2) := by decide +kernel
theorem d_M_comeToNext_61 : decode b_M_comeToNext 61 = .ok (.aload_n 0, 1) := by decide +kernel
theorem d_M_comeToNext_62 : decode b_M_comeToNext 62 = .ok (.getfield 202, 3) := by decide +kernel
theorem d_M_comeToNext_65 : decode b_M_comeToNext 65 = .ok (.iadd, 1) := by decide +kernel
theorem d_M_comeToNext_66 : decode b_M_comeToNext 66 = .ok (.invokevirtual 110, 3) := by decide +kernel
theorem d_M_comeToNext_69 : decode b_M_comeToNext 69 = .ok (.aload_n 0, 1) := by decide +kernel
theorem d_M_comeToNext_70 : decode b_M_comeToNext 70 = .ok (.dup, 1) := by decide +kernel
theorem d_M_comeToNext_71 : decode b_M_comeToNext 71 = .ok (.getfield 202, 3) := by decide +kernel
theorem d_M_comeToNext_74 : decode b_M_comeToNext 74 = .ok (.iconst 1, 1) := by decide +kernel
theorem d_M_comeToNext_75 : decode b_M_comeToNext 75 = .ok (.iadd, 1) := by decide +kernel
theorem d_M_comeToNext_76 : decode b_M_comeToNext 76 = .ok (.putfield 202, 3) := by decide +kernel
theorem d_M_comeToNext_79 : decode b_M_comeToNext 79 = .ok (.iconst 5, 1) := by decide +kernel
theorem d_M_comeToNext_80 : decode b_M_comeToNext 80 = .ok (.aload_n 0, 1) := by decide +kernel
theorem d_M_comeToNext_81 : decode b_M_comeToNext 81 = .ok (.getfield 202, 3) := by decide +kernel
theorem d_M_comeToNext_84 : decode b_M_comeToNext 84 = .ok (.iadd, 1) := by decide +kernel
theorem d_M_comeToNext_85 : decode b_M_comeToNext 85 = .ok (.istore_n 2, 1) := by decide +kernel
theorem d_M_comeToNext_86 : decode b_M_comeToNext 86 = .ok (.bipush 12, 2) := by decide +kernel
theorem d_M_comeToNext_88 : decode b_M_comeToNext 88 = .ok (.iload_n 2, 1) := by decide +kernel
theorem d_M_comeToNext_89 : decode b_M_comeToNext 89 = .ok (.imul, 1) := by decide +kernel
theorem d_M_comeToNext_90 : decode b_M_comeToNext 90 = .ok (.aload_n 0, 1) := by decide +kernel
theorem d_M_comeToNext_91 : decode b_M_comeToNext 91 = .ok (.getfield 32, 3) := by decide +kernel
theorem d_M_comeToNext_94 : decode b_M_comeToNext 94 = .ok (.iload_n 2, 1) := by decide +kernel
theorem d_M_comeToNext_95 : decode b_M_comeToNext 95 = .ok (.iaload, 1) := by decide +kernel
theorem d_M_comeToNext_96 : decode b_M_comeToNext 96 = .ok (.iadd, 1) := by decide +kernel
theorem d_M_comeToNext_97 : decode b_M_comeToNext 97 = .ok (.istore_n 3, 1) := by decide +kernel
theorem d_M_comeToNext_98 : decode b_M_comeToNext 98 = .ok (.aload_n 0, 1) := by decide +kernel
theorem d_M_comeToNext_99 : decode b_M_comeToNext 99 = .ok (.getfield 44, 3) := by decide +kernel
theorem d_M_comeToNext_102 : decode b_M_comeToNext 102 = .ok (.iload_n 3, 1) := by decide +kernel
theorem d_M_comeToNext_103 : decode b_M_comeToNext 103 = .ok (.aload_n 0, 1) := by decide +kernel
theorem d_M_comeToNext_104 : decode b_M_comeToNext 104 = .ok (.getfield 7, 3) := by decide +kernel
theorem d_M_comeToNext_107 : decode b_M_comeToNext 107 = .ok (.aload_n 0, 1) := by decide +kernel
theorem d_M_comeToNext_108 : decode b_M_comeToNext 108 = .ok (.getfield 190, 3) := by decide +kernel
theorem d_M_comeToNext_111 : decode b_M_comeToNext 111 = .ok (.iaload, 1) := by decide +kernel
theorem d_M_comeToNext_112 : decode b_M_comeToNext 112 = .ok (.iastore, 1) := by decide +kernel
theorem d_M_comeToNext_113 : decode b_M_comeToNext 113 = .ok (.aload_n 0, 1) := by decide +kernel
theorem d_M_comeToNext_114 : decode b_M_comeToNext 114 = .ok (.getfield 47, 3) := by decide +kernel
theorem d_M_comeToNext_117 : decode b_M_comeToNext 117 = .ok (.iload_n 3, 1) := by decide +kernel
theorem d_M_comeToNext_118 : decode b_M_comeToNext 118 = .ok (.aload_n 0, 1) := by decide +kernel
theorem d_M_comeToNext_119 : decode b_M_comeToNext 119 = .ok (.getfield 196, 3) := by decide +kernel
theorem d_M_comeToNext_122 : decode b_M_comeToNext 122 = .ok (.iastore, 1) := by decide +kernel
theorem d_M_comeToNext_123 : decode b_M_comeToNext 123 = .ok (.bipush 100, 2) := by decide +kernel
theorem d_M_comeToNext_125 : decode b_M_comeToNext 125 = .ok (.aload_n 0, 1) := by decide +kernel
theorem d_M_comeToNext_126 : decode b_M_comeToNext 126 = .ok (.getfield 190, 3) := by decide +kernel
theorem d_M_comeToNext_129 : decode b_M_comeToNext 129 = .ok (.imul, 1) := by decide +kernel
theorem d_M_comeToNext_130 : decode b_M_comeToNext 130 = .ok (.aload_n 0, 1) := by decide +kernel
theorem d_M_comeToNext_131 : decode b_M_comeToNext 131 = .ok (.getfield 35, 3) := by decide +kernel
theorem d_M_comeToNext_134 : decode b_M_comeToNext 134 = .ok (.bipush 12, 2) := by decide +kernel
theorem d_M_comeToNext_136 : decode b_M_comeToNext 136 = .ok (.aload_n 0, 1) := by decide +kernel
theorem d_M_comeToNext_137 : decode b_M_comeToNext 137 = .ok (.getfield 190, 3) := by decide +kernel
theorem d_M_comeToNext_140 : decode b_M_comeToNext 140 = .ok (.imul, 1) := by decide +kernel
theorem d_M_comeToNext_141 : decode b_M_comeToNext 141 = .ok (.aload_n 0, 1) := by decide +kernel
theorem d_M_comeToNext_142 : decode b_M_comeToNext 142 = .ok (.getfield 196, 3) := by decide +kernel
theorem d_M_comeToNext_145 : decode b_M_comeToNext 145 = .ok (.iadd, 1) := by decide +kernel
theorem d_M_comeToNext_146 : decode b_M_comeToNext 146 = .ok (.iaload, 1) := by decide +kernel
theorem d_M_comeToNext_147 : decode b_M_comeToNext 147 = .ok (.iadd, 1) := by decide +kernel
theorem d_M_comeToNext_148 : decode b_M_comeToNext 148 = .ok (.istore 4, 2) := by decide +kernel
theorem d_M_comeToNext_150 : decode b_M_comeToNext 150 = .ok (.aload_n 0, 1) := by decide +kernel
theorem d_M_comeToNext_151 : decode b_M_comeToNext 151 = .ok (.iload_n 2, 1) := by decide +kernel
theorem d_M_comeToNext_152 : decode b_M_comeToNext 152 = .ok (.aload_n 0, 1) := by decide +kernel
theorem d_M_comeToNext_153 : decode b_M_comeToNext 153 = .ok (.getfield 13, 3) := by decide +kernel
theorem d_M_comeToNext_156 : decode b_M_comeToNext 156 = .ok (.iload_n 2, 1) := by decide +kernel
theorem d_M_comeToNext_157 : decode b_M_comeToNext 157 = .ok (.iaload, 1) := by decide +kernel
theorem d_M_comeToNext_158 : decode b_M_comeToNext 158 = .ok (.aload_n 0, 1) := by decide +kernel
theorem d_M_comeToNext_159 : decode b_M_comeToNext 159 = .ok (.getfield 38, 3) := by decide +kernel
theorem d_M_comeToNext_162 : decode b_M_comeToNext 162 = .ok (.bipush 12, 2) := by decide +kernel
theorem d_M_comeToNext_164 : decode b_M_comeToNext 164 = .ok (.aload_n 0, 1) := by decide +kernel
theorem d_M_comeToNext_165 : decode b_M_comeToNext 165 = .ok (.getfield 190, 3) := by decide +kernel
theorem d_M_comeToNext_168 : decode b_M_comeToNext 168 = .ok (.imul, 1) := by decide +kernel
theorem d_M_comeToNext_169 : decode b_M_comeToNext 169 = .ok (.aload_n 0, 1) := by decide +kernel
theorem d_M_comeToNext_170 : decode b_M_comeToNext 170 = .ok (.getfield 196, 3) := by decide +kernel
theorem d_M_comeToNext_173 : decode b_M_comeToNext 173 = .ok (.iadd, 1) := by decide +kernel
theorem d_M_comeToNext_174 : decode b_M_comeToNext 174 = .ok (.iaload, 1) := by decide +kernel
theorem d_M_comeToNext_175 : decode b_M_comeToNext 175 = .ok (.aload_n 0, 1) := by decide +kernel
theorem d_M_comeToNext_176 : decode b_M_comeToNext 176 = .ok (.getfield 41, 3) := by decide +kernel
theorem d_M_comeToNext_179 : decode b_M_comeToNext 179 = .ok (.bipush 12, 2) := by decide +kernel
theorem d_M_comeToNext_181 : decode b_M_comeToNext 181 = .ok (.aload_n 0, 1) := by decide +kernel
theorem d_M_comeToNext_182 : decode b_M_comeToNext 182 = .ok (.getfield 190, 3) := by decide +kernel
theorem d_M_comeToNext_185 : decode b_M_comeToNext 185 = .ok (.imul, 1) := by decide +kernel
theorem d_M_comeToNext_186 : decode b_M_comeToNext 186 = .ok (.aload_n 0, 1) := by decide +kernel
theorem d_M_comeToNext_187 : decode b_M_comeToNext 187 = .ok (.getfield 196, 3) := by decide +kernel
theorem d_M_comeToNext_190 : decode b_M_comeToNext 190 = .ok (.iadd, 1) := by decide +kernel
theorem d_M_comeToNext_191 : decode b_M_comeToNext 191 = .ok (.iaload, 1) := by decide +kernel
theorem d_M_comeToNext_192 : decode b_M_comeToNext 192 = .ok (.invokevirtual 117, 3) := by decide +kernel
theorem d_M_comeToNext_195 : decode b_M_comeToNext 195 = .ok (.iconst 0, 1) := by decide +kernel
theorem d_M_comeToNext_196 : decode b_M_comeToNext 196 = .ok (.istore 5, 2) := by decide +kernel
theorem d_M_comeToNext_198 : decode b_M_comeToNext 198 = .ok (.iload 5, 2) := by decide +kernel
theorem d_M_comeToNext_200 : decode b_M_comeToNext 200 = .ok (.iload_n 1, 1) := by decide +kernel
theorem d_M_comeToNext_201 : decode b_M_comeToNext 201 = .ok (.if_icmp .ge 24, 3) := by decide +kernel
theorem d_M_comeToNext_204 : decode b_M_comeToNext 204 = .ok (.aload_n 0, 1) := by decide +kernel
theorem d_M_comeToNext_205 : decode b_M_comeToNext 205 = .ok (.iload_n 2, 1) := by decide +kernel
theorem d_M_comeToNext_206 : decode b_M_comeToNext 206 = .ok (.aload_n 0, 1) := by decide +kernel
theorem d_M_comeToNext_207 : decode b_M_comeToNext 207 = .ok (.getfield 19, 3) := by decide +kernel
theorem d_M_comeToNext_210 : decode b_M_comeToNext 210 = .ok (.iload 4, 2) := by decide +kernel
theorem d_M_comeToNext_212 : decode b_M_comeToNext 212 = .ok (.iload 5, 2) := by decide +kernel
theorem d_M_comeToNext_214 : decode b_M_comeToNext 214 = .ok (.iadd, 1) := by decide +kernel
theorem d_M_comeToNext_215 : decode b_M_comeToNext 215 = .ok (.iaload, 1) := by decide +kernel
theorem d_M_comeToNext_216 : decode b_M_comeToNext 216 = .ok (.invokevirtual 106, 3) := by decide +kernel
theorem d_M_comeToNext_219 : decode b_M_comeToNext 219 = .ok (.iinc 5 1, 3) := by decide +kernel
theorem d_M_comeToNext_222 : decode b_M_comeToNext 222 = .ok (.goto (-24), 3) := by decide +kernel
theorem d_M_comeToNext_225 : decode b_M_comeToNext 225 = .ok (.aload_n 0, 1) := by decide +kernel
theorem d_M_comeToNext_226 : decode b_M_comeToNext 226 = .ok (.dup, 1) := by decide +kernel
theorem d_M_comeToNext_227 : decode b_M_comeToNext 227 = .ok (.getfield 196, 3) := by decide +kernel
theorem d_M_comeToNext_230 : decode b_M_comeToNext 230 = .ok (.iconst 1, 1) := by decide +kernel
theorem d_M_comeToNext_231 : decode b_M_comeToNext 231 = .ok (.iadd, 1) := by decide +kernel
theorem d_M_comeToNext_232 : decode b_M_comeToNext 232 = .ok (.putfield 196, 3) := by decide +kernel
theorem d_M_comeToNext_235 : decode b_M_comeToNext 235 = .ok (.aload_n 0, 1) := by decide +kernel
theorem d_M_comeToNext_236 : decode b_M_comeToNext 236 = .ok (.invokevirtual 205, 3) := by decide +kernel
theorem d_M_comeToNext_239 : decode b_M_comeToNext 239 = .ok (.return_, 1) := by decide +kernel
theorem d_M_makeHint_0 : decode b_M_makeHint 0 = .ok (.bipush 120, 2) := by decide +kernel
theorem d_M_makeHint_2 : decode b_M_makeHint 2 = .ok (.iload_n 1, 1) := by decide +kernel
theorem d_M_makeHint_3 : decode b_M_makeHint 3 = .ok (.imul, 1) := by decide +kernel
theorem d_M_makeHint_4 : decode b_M_makeHint 4 = .ok (.istore_n 2, 1) := by decide +kernel
theorem d_M_makeHint_5 : decode b_M_makeHint 5 = .ok (.iload_n 2, 1) := by decide +kernel
theorem d_M_makeHint_6 : decode b_M_makeHint 6 = .ok (.istore_n 3, 1) := by decide +kernel
theorem d_M_makeHint_7 : decode b_M_makeHint 7 = .ok (.iconst 0, 1) := by decide +kernel
theorem d_M_makeHint_8 : decode b_M_makeHint 8 = .ok (.istore 4, 2) := by decide +kernel
theorem d_M_makeHint_10 : decode b_M_makeHint 10 = .ok (.iload 4, 2) := by decide +kernel
theorem d_M_makeHint_12 : decode b_M_makeHint 12 = .ok (.aload_n 0, 1) := by decide +kernel
theorem d_M_makeHint_13 : decode b_M_makeHint 13 = .ok (.getfield 32, 3) := by decide +kernel
theorem d_M_makeHint_16 : decode b_M_makeHint 16 = .ok (.iload_n 1, 1) := by decide +kernel
theorem d_M_makeHint_17 : decode b_M_makeHint 17 = .ok (.iaload, 1) := by decide +kernel
theorem d_M_makeHint_18 : decode b_M_makeHint 18 = .ok (.if_icmp .ge 94, 3) := by decide +kernel
theorem d_M_makeHint_21 : decode b_M_makeHint 21 = .ok (.aload_n 0, 1) := by decide +kernel
theorem d_M_makeHint_22 : decode b_M_makeHint 22 = .ok (.getfield 35, 3) := by decide +kernel
theorem d_M_makeHint_25 : decode b_M_makeHint 25 = .ok (.bipush 12, 2) := by decide +kernel
theorem d_M_makeHint_27 : decode b_M_makeHint 27 = .ok (.iload_n 1, 1) := by decide +kernel
theorem d_M_makeHint_28 : decode b_M_makeHint 28 = .ok (.imul, 1) := by decide +kernel
theorem d_M_makeHint_29 : decode b_M_makeHint 29 = .ok (.iload 4, 2) := by decide +kernel
theorem d_M_makeHint_31 : decode b_M_makeHint 31 = .ok (.iadd, 1) := by decide +kernel
theorem d_M_makeHint_32 : decode b_M_makeHint 32 = .ok (.iaload, 1) := by decide +kernel
theorem d_M_makeHint_33 : decode b_M_makeHint 33 = .ok (.istore 5, 2) := by decide +kernel
theorem d_M_makeHint_35 : decode b_M_makeHint 35 = .ok (.iconst 4, 1) := by decide +kernel
theorem d_M_makeHint_36 : decode b_M_makeHint 36 = .ok (.istore 6, 2) := by decide +kernel
theorem d_M_makeHint_38 : decode b_M_makeHint 38 = .ok (.iload 6, 2) := by decide +kernel
theorem d_M_makeHint_40 : decode b_M_makeHint 40 = .ok (.bipush 8, 2) := by decide +kernel
theorem d_M_makeHint_42 : decode b_M_makeHint 42 = .ok (.aload_n 0, 1) := by decide +kernel
theorem d_M_makeHint_43 : decode b_M_makeHint 43 = .ok (.getfield 38, 3) := by decide +kernel
theorem d_M_makeHint_46 : decode b_M_makeHint 46 = .ok (.bipush 12, 2) := by decide +kernel
theorem d_M_makeHint_48 : decode b_M_makeHint 48 = .ok (.iload_n 1, 1) := by decide +kernel
theorem d_M_makeHint_49 : decode b_M_makeHint 49 = .ok (.imul, 1) := by decide +kernel
theorem d_M_makeHint_50 : decode b_M_makeHint 50 = .ok (.iload 4, 2) := by decide +kernel
theorem d_M_makeHint_52 : decode b_M_makeHint 52 = .ok (.iadd, 1) := by decide +kernel
theorem d_M_makeHint_53 : decode b_M_makeHint 53 = .ok (.iaload, 1) := by decide +kernel
theorem d_M_makeHint_54 : decode b_M_makeHint 54 = .ok (.iadd, 1) := by decide +kernel
theorem d_M_makeHint_55 : decode b_M_makeHint 55 = .ok (.if_icmp .ge 51, 3) := by decide +kernel
theorem d_M_makeHint_58 : decode b_M_makeHint 58 = .ok (.iload 6, 2) := by decide +kernel
theorem d_M_makeHint_60 : decode b_M_makeHint 60 = .ok (.bipush 8, 2) := by decide +kernel
theorem d_M_makeHint_62 : decode b_M_makeHint 62 = .ok (.if_icmp .ne 14, 3) := by decide +kernel
theorem d_M_makeHint_65 : decode b_M_makeHint 65 = .ok (.aload_n 0, 1) := by decide +kernel
theorem d_M_makeHint_66 : decode b_M_makeHint 66 = .ok (.getfield 29, 3) := by decide +kernel
theorem d_M_makeHint_69 : decode b_M_makeHint 69 = .ok (.iload_n 3, 1) := by decide +kernel
theorem d_M_makeHint_70 : decode b_M_makeHint 70 = .ok (.iload 5, 2) := by decide +kernel
theorem d_M_makeHint_72 : decode b_M_makeHint 72 = .ok (.iastore, 1) := by decide +kernel
theorem d_M_makeHint_73 : decode b_M_makeHint 73 = .ok (.iinc 3 1, 3) := by decide +kernel
theorem d_M_makeHint_76 : decode b_M_makeHint 76 = .ok (.aload_n 0, 1) := by decide +kernel
theorem d_M_makeHint_77 : decode b_M_makeHint 77 = .ok (.getfield 29, 3) := by decide +kernel
theorem d_M_makeHint_80 : decode b_M_makeHint 80 = .ok (.iload_n 3, 1) := by decide +kernel
theorem d_M_makeHint_81 : decode b_M_makeHint 81 = .ok (.aload_n 0, 1) := by decide +kernel
theorem d_M_makeHint_82 : decode b_M_makeHint 82 = .ok (.getfield 19, 3) := by decide +kernel
theorem d_M_makeHint_85 : decode b_M_makeHint 85 = .ok (.bipush 100, 2) := by decide +kernel
theorem d_M_makeHint_87 : decode b_M_makeHint 87 = .ok (.iload_n 1, 1) := by decide +kernel
theorem d_M_makeHint_88 : decode b_M_makeHint 88 = .ok (.imul, 1) := by decide +kernel
theorem d_M_makeHint_89 : decode b_M_makeHint 89 = .ok (.iload 5, 2) := by decide +kernel
theorem d_M_makeHint_91 : decode b_M_makeHint 91 = .ok (.iadd, 1) := by decide +kernel
theorem d_M_makeHint_92 : decode b_M_makeHint 92 = .ok (.iload 6, 2) := by decide +kernel
theorem d_M_makeHint_94 : decode b_M_makeHint 94 = .ok (.iadd, 1) := by decide +kernel
theorem d_M_makeHint_95 : decode b_M_makeHint 95 = .ok (.iaload, 1) := by decide +kernel
theorem d_M_makeHint_96 : decode b_M_makeHint 96 = .ok (.iastore, 1) := by decide +kernel
theorem d_M_makeHint_97 : decode b_M_makeHint 97 = .ok (.iinc 3 1, 3) := by decide +kernel
theorem d_M_makeHint_100 : decode b_M_makeHint 100 = .ok (.iinc 6 1, 3) := by decide +kernel
theorem d_M_makeHint_103 : decode b_M_makeHint 103 = .ok (.goto (-65), 3) := by decide +kernel
theorem d_M_makeHint_106 : decode b_M_makeHint 106 = .ok (.iinc 4 1, 3) := by decide +kernel
theorem d_M_makeHint_109 : decode b_M_makeHint 109 = .ok (.goto (-99), 3) := by decide +kernel
theorem d_M_makeHint_112 : decode b_M_makeHint 112 = .ok (.aload_n 0, 1) := by decide +kernel
theorem d_M_makeHint_113 : decode b_M_makeHint 113 = .ok (.getfield 29, 3) := by decide +kernel
theorem d_M_makeHint_116 : decode b_M_makeHint 116 = .ok (.iload_n 2, 1) := by decide +kernel
theorem d_M_makeHint_117 : decode b_M_makeHint 117 = .ok (.iload_n 3, 1) := by decide +kernel
theorem d_M_makeHint_118 : decode b_M_makeHint 118 = .ok (.invokestatic 128, 3) := by decide +kernel
theorem d_M_makeHint_121 : decode b_M_makeHint 121 = .ok (.lstore 4, 2) := by decide +kernel
theorem d_M_makeHint_123 : decode b_M_makeHint 123 = .ok (.iconst 3, 1) := by decide +kernel
theorem d_M_makeHint_124 : decode b_M_makeHint 124 = .ok (.istore 6, 2) := by decide +kernel
theorem d_M_makeHint_126 : decode b_M_makeHint 126 = .ok (.iload 6, 2) := by decide +kernel
theorem d_M_makeHint_128 : decode b_M_makeHint 128 = .ok (.ifCond .lt 31, 3) := by decide +kernel
theorem d_M_makeHint_131 : decode b_M_makeHint 131 = .ok (.aload_n 0, 1) := by decide +kernel
theorem d_M_makeHint_132 : decode b_M_makeHint 132 = .ok (.getfield 29, 3) := by decide +kernel
theorem d_M_makeHint_135 : decode b_M_makeHint 135 = .ok (.iload_n 3, 1) := by decide +kernel
theorem d_M_makeHint_136 : decode b_M_makeHint 136 = .ok (.lload 4, 2) := by decide +kernel
theorem d_M_makeHint_138 : decode b_M_makeHint 138 = .ok (.bipush 8, 2) := by decide +kernel
theorem d_M_makeHint_140 : decode b_M_makeHint 140 = .ok (.iload 6, 2) := by decide +kernel
theorem d_M_makeHint_142 : decode b_M_makeHint 142 = .ok (.imul, 1) := by decide +kernel
theorem d_M_makeHint_143 : decode b_M_makeHint 143 = .ok (.lshr, 1) := by decide +kernel
theorem d_M_makeHint_144 : decode b_M_makeHint 144 = .ok (.ldc2_w 79, 3) := by decide +kernel
theorem d_M_makeHint_147 : decode b_M_makeHint 147 = .ok (.land, 1) := by decide +kernel
theorem d_M_makeHint_148 : decode b_M_makeHint 148 = .ok (.l2i, 1) := by decide +kernel
theorem d_M_makeHint_149 : decode b_M_makeHint 149 = .ok (.iastore, 1) := by decide +kernel
theorem d_M_makeHint_150 : decode b_M_makeHint 150 = .ok (.iinc 3 1, 3) := by decide +kernel
theorem d_M_makeHint_153 : decode b_M_makeHint 153 = .ok (.iinc 6 (-1), 3) := by decide +kernel
theorem d_M_makeHint_156 : decode b_M_makeHint 156 = .ok (.goto (-30), 3) := by decide +kernel
theorem d_M_makeHint_159 : decode b_M_makeHint 159 = .ok (.aload_n 0, 1) := by decide +kernel
theorem d_M_makeHint_160 : decode b_M_makeHint 160 = .ok (.getfield 26, 3) := by decide +kernel
theorem d_M_makeHint_163 : decode b_M_makeHint 163 = .ok (.iload_n 1, 1) := by decide +kernel
theorem d_M_makeHint_164 : decode b_M_makeHint 164 = .ok (.iload_n 3, 1) := by decide +kernel
theorem d_M_makeHint_165 : decode b_M_makeHint 165 = .ok (.iload_n 2, 1) := by decide +kernel
theorem d_M_makeHint_166 : decode b_M_makeHint 166 = .ok (.isub, 1) := by decide +kernel
theorem d_M_makeHint_167 : decode b_M_makeHint 167 = .ok (.iastore, 1) := by decide +kernel
theorem d_M_makeHint_168 : decode b_M_makeHint 168 = .ok (.aload_n 0, 1) := by decide +kernel
theorem d_M_makeHint_169 : decode b_M_makeHint 169 = .ok (.getfield 22, 3) := by decide +kernel
theorem d_M_makeHint_172 : decode b_M_makeHint 172 = .ok (.iload_n 1, 1) := by decide +kernel
theorem d_M_makeHint_173 : decode b_M_makeHint 173 = .ok (.iconst 1, 1) := by decide +kernel
theorem d_M_makeHint_174 : decode b_M_makeHint 174 = .ok (.bastore, 1) := by decide +kernel
theorem d_M_makeHint_175 : decode b_M_makeHint 175 = .ok (.return_, 1) := by decide +kernel
theorem d_M_publish_0 : decode b_M_publish 0 = .ok (.iconst 0, 1) := by decide +kernel
theorem d_M_publish_1 : decode b_M_publish 1 = .ok (.istore_n 1, 1) := by decide +kernel
theorem d_M_publish_2 : decode b_M_publish 2 = .ok (.iload_n 1, 1) := by decide +kernel
theorem d_M_publish_3 : decode b_M_publish 3 = .ok (.aload_n 0, 1) := by decide +kernel
theorem d_M_publish_4 : decode b_M_publish 4 = .ok (.getfield 202, 3) := by decide +kernel
theorem d_M_publish_7 : decode b_M_publish 7 = .ok (.if_icmp .ge 89, 3) := by decide +kernel
theorem d_M_publish_10 : decode b_M_publish 10 = .ok (.bipush 6, 2) := by decide +kernel
theorem d_M_publish_12 : decode b_M_publish 12 = .ok (.iload_n 1, 1) := by decide +kernel
theorem d_M_publish_13 : decode b_M_publish 13 = .ok (.iadd, 1) := by decide +kernel
theorem d_M_publish_14 : decode b_M_publish 14 = .ok (.istore_n 2, 1) := by decide +kernel
theorem d_M_publish_15 : decode b_M_publish 15 = .ok (.iconst 0, 1) := by decide +kernel
theorem d_M_publish_16 : decode b_M_publish 16 = .ok (.istore_n 3, 1) := by decide +kernel
theorem d_M_publish_17 : decode b_M_publish 17 = .ok (.iload_n 3, 1) := by decide +kernel
theorem d_M_publish_18 : decode b_M_publish 18 = .ok (.aload_n 0, 1) := by decide +kernel
theorem d_M_publish_19 : decode b_M_publish 19 = .ok (.getfield 32, 3) := by decide +kernel
theorem d_M_publish_22 : decode b_M_publish 22 = .ok (.iload_n 2, 1) := by decide +kernel
theorem d_M_publish_23 : decode b_M_publish 23 = .ok (.iaload, 1) := by decide +kernel
theorem d_M_publish_24 : decode b_M_publish 24 = .ok (.if_icmp .ge 66, 3) := by decide +kernel
theorem d_M_publish_27 : decode b_M_publish 27 = .ok (.aload_n 0, 1) := by decide +kernel
theorem d_M_publish_28 : decode b_M_publish 28 = .ok (.aload_n 0, 1) := by decide +kernel
theorem d_M_publish_29 : decode b_M_publish 29 = .ok (.getfield 44, 3) := by decide +kernel
theorem d_M_publish_32 : decode b_M_publish 32 = .ok (.bipush 12, 2) := by decide +kernel
theorem d_M_publish_34 : decode b_M_publish 34 = .ok (.iload_n 2, 1) := by decide +kernel
theorem d_M_publish_35 : decode b_M_publish 35 = .ok (.imul, 1) := by decide +kernel
theorem d_M_publish_36 : decode b_M_publish 36 = .ok (.iload_n 3, 1) := by decide +kernel
theorem d_M_publish_37 : decode b_M_publish 37 = .ok (.iadd, 1) := by decide +kernel
theorem d_M_publish_38 : decode b_M_publish 38 = .ok (.iaload, 1) := by decide +kernel
theorem d_M_publish_39 : decode b_M_publish 39 = .ok (.aload_n 0, 1) := by decide +kernel
theorem d_M_publish_40 : decode b_M_publish 40 = .ok (.getfield 47, 3) := by decide +kernel
theorem d_M_publish_43 : decode b_M_publish 43 = .ok (.bipush 12, 2) := by decide +kernel
theorem d_M_publish_45 : decode b_M_publish 45 = .ok (.iload_n 2, 1) := by decide +kernel
theorem d_M_publish_46 : decode b_M_publish 46 = .ok (.imul, 1) := by decide +kernel
theorem d_M_publish_47 : decode b_M_publish 47 = .ok (.iload_n 3, 1) := by decide +kernel
theorem d_M_publish_48 : decode b_M_publish 48 = .ok (.iadd, 1) := by decide +kernel
theorem d_M_publish_49 : decode b_M_publish 49 = .ok (.iaload, 1) := by decide +kernel
theorem d_M_publish_50 : decode b_M_publish 50 = .ok (.invokevirtual 199, 3) := by decide +kernel
theorem d_M_publish_53 : decode b_M_publish 53 = .ok (.istore 4, 2) := by decide +kernel
theorem d_M_publish_55 : decode b_M_publish 55 = .ok (.iload 4, 2) := by decide +kernel
theorem d_M_publish_57 : decode b_M_publish 57 = .ok (.ifCond .lt 27, 3) := by decide +kernel
theorem d_M_publish_60 : decode b_M_publish 60 = .ok (.aload_n 0, 1) := by decide +kernel
theorem d_M_publish_61 : decode b_M_publish 61 = .ok (.getfield 57, 3) := by decide +kernel
theorem d_M_publish_64 : decode b_M_publish 64 = .ok (.iload 4, 2) := by decide +kernel
theorem d_M_publish_66 : decode b_M_publish 66 = .ok (.ldc 208, 2) := by decide +kernel
theorem d_M_publish_68 : decode b_M_publish 68 = .ok (.aload_n 0, 1) := by decide +kernel
theorem d_M_publish_69 : decode b_M_publish 69 = .ok (.getfield 7, 3) := by decide +kernel
theorem d_M_publish_72 : decode b_M_publish 72 = .ok (.iload_n 1, 1) := by decide +kernel
theorem d_M_publish_73 : decode b_M_publish 73 = .ok (.iaload, 1) := by decide +kernel
theorem d_M_publish_74 : decode b_M_publish 74 = .ok (.iadd, 1) := by decide +kernel
theorem d_M_publish_75 : decode b_M_publish 75 = .ok (.iastore, 1) := by decide +kernel
theorem d_M_publish_76 : decode b_M_publish 76 = .ok (.aload_n 0, 1) := by decide +kernel
theorem d_M_publish_77 : decode b_M_publish 77 = .ok (.getfield 60, 3) := by decide +kernel
theorem d_M_publish_80 : decode b_M_publish 80 = .ok (.iload 4, 2) := by decide +kernel
theorem d_M_publish_82 : decode b_M_publish 82 = .ok (.iload_n 3, 1) := by decide +kernel
theorem d_M_publish_83 : decode b_M_publish 83 = .ok (.iastore, 1) := by decide +kernel
theorem d_M_publish_84 : decode b_M_publish 84 = .ok (.iinc 3 1, 3) := by decide +kernel
theorem d_M_publish_87 : decode b_M_publish 87 = .ok (.goto (-70), 3) := by decide +kernel
theorem d_M_publish_90 : decode b_M_publish 90 = .ok (.iinc 1 1, 3) := by decide +kernel
theorem d_M_publish_93 : decode b_M_publish 93 = .ok (.goto (-91), 3) := by decide +kernel
theorem d_M_publish_96 : decode b_M_publish 96 = .ok (.iconst 0, 1) := by decide +kernel
theorem d_M_publish_97 : decode b_M_publish 97 = .ok (.istore_n 1, 1) := by decide +kernel
theorem d_M_publish_98 : decode b_M_publish 98 = .ok (.iload_n 1, 1) := by decide +kernel
theorem d_M_publish_99 : decode b_M_publish 99 = .ok (.aload_n 0, 1) := by decide +kernel
theorem d_M_publish_100 : decode b_M_publish 100 = .ok (.getfield 85, 3) := by decide +kernel
theorem d_M_publish_103 : decode b_M_publish 103 = .ok (.if_icmp .ge 35, 3) := by decide +kernel
theorem d_M_publish_106 : decode b_M_publish 106 = .ok (.aload_n 0, 1) := by decide +kernel
theorem d_M_publish_107 : decode b_M_publish 107 = .ok (.getfield 57, 3) := by decide +kernel
theorem d_M_publish_110 : decode b_M_publish 110 = .ok (.iload_n 1, 1) := by decide +kernel
theorem d_M_publish_111 : decode b_M_publish 111 = .ok (.iaload, 1) := by decide +kernel
theorem d_M_publish_112 : decode b_M_publish 112 = .ok (.ldc 208, 2) := by decide +kernel
theorem d_M_publish_114 : decode b_M_publish 114 = .ok (.if_icmp .lt 18, 3) := by decide +kernel
theorem d_M_publish_117 : decode b_M_publish 117 = .ok (.aload_n 0, 1) := by decide +kernel
theorem d_M_publish_118 : decode b_M_publish 118 = .ok (.getfield 57, 3) := by decide +kernel
theorem d_M_publish_121 : decode b_M_publish 121 = .ok (.iload_n 1, 1) := by decide +kernel
theorem d_M_publish_122 : decode b_M_publish 122 = .ok (.aload_n 0, 1) := by decide +kernel
theorem d_M_publish_123 : decode b_M_publish 123 = .ok (.getfield 57, 3) := by decide +kernel
theorem d_M_publish_126 : decode b_M_publish 126 = .ok (.iload_n 1, 1) := by decide +kernel
theorem d_M_publish_127 : decode b_M_publish 127 = .ok (.iaload, 1) := by decide +kernel
theorem d_M_publish_128 : decode b_M_publish 128 = .ok (.ldc 208, 2) := by decide +kernel
theorem d_M_publish_130 : decode b_M_publish 130 = .ok (.isub, 1) := by decide +kernel
theorem d_M_publish_131 : decode b_M_publish 131 = .ok (.iastore, 1) := by decide +kernel
theorem d_M_publish_132 : decode b_M_publish 132 = .ok (.iinc 1 1, 3) := by decide +kernel
theorem d_M_publish_135 : decode b_M_publish 135 = .ok (.goto (-37), 3) := by decide +kernel
theorem d_M_publish_138 : decode b_M_publish 138 = .ok (.iconst 0, 1) := by decide +kernel
theorem d_M_publish_139 : decode b_M_publish 139 = .ok (.istore_n 1, 1) := by decide +kernel
theorem d_M_publish_140 : decode b_M_publish 140 = .ok (.iload_n 1, 1) := by decide +kernel
theorem d_M_publish_141 : decode b_M_publish 141 = .ok (.aload_n 0, 1) := by decide +kernel
theorem d_M_publish_142 : decode b_M_publish 142 = .ok (.getfield 202, 3) := by decide +kernel
theorem d_M_publish_145 : decode b_M_publish 145 = .ok (.if_icmp .ge 49, 3) := by decide +kernel
theorem d_M_publish_148 : decode b_M_publish 148 = .ok (.bipush 6, 2) := by decide +kernel
theorem d_M_publish_150 : decode b_M_publish 150 = .ok (.iload_n 1, 1) := by decide +kernel
theorem d_M_publish_151 : decode b_M_publish 151 = .ok (.iadd, 1) := by decide +kernel
theorem d_M_publish_152 : decode b_M_publish 152 = .ok (.istore_n 2, 1) := by decide +kernel
theorem d_M_publish_153 : decode b_M_publish 153 = .ok (.aload_n 0, 1) := by decide +kernel
theorem d_M_publish_154 : decode b_M_publish 154 = .ok (.getfield 7, 3) := by decide +kernel
theorem d_M_publish_157 : decode b_M_publish 157 = .ok (.iload_n 2, 1) := by decide +kernel
theorem d_M_publish_158 : decode b_M_publish 158 = .ok (.aload_n 0, 1) := by decide +kernel
theorem d_M_publish_159 : decode b_M_publish 159 = .ok (.getfield 7, 3) := by decide +kernel
theorem d_M_publish_162 : decode b_M_publish 162 = .ok (.iload_n 1, 1) := by decide +kernel
theorem d_M_publish_163 : decode b_M_publish 163 = .ok (.iaload, 1) := by decide +kernel
theorem d_M_publish_164 : decode b_M_publish 164 = .ok (.iastore, 1) := by decide +kernel
theorem d_M_publish_165 : decode b_M_publish 165 = .ok (.aload_n 0, 1) := by decide +kernel
theorem d_M_publish_166 : decode b_M_publish 166 = .ok (.getfield 16, 3) := by decide +kernel
theorem d_M_publish_169 : decode b_M_publish 169 = .ok (.iload_n 2, 1) := by decide +kernel
theorem d_M_publish_170 : decode b_M_publish 170 = .ok (.aload_n 0, 1) := by decide +kernel
theorem d_M_publish_171 : decode b_M_publish 171 = .ok (.getfield 13, 3) := by decide +kernel
theorem d_M_publish_174 : decode b_M_publish 174 = .ok (.iload_n 2, 1) := by decide +kernel
theorem d_M_publish_175 : decode b_M_publish 175 = .ok (.iaload, 1) := by decide +kernel
theorem d_M_publish_176 : decode b_M_publish 176 = .ok (.iastore, 1) := by decide +kernel
theorem d_M_publish_177 : decode b_M_publish 177 = .ok (.aload_n 0, 1) := by decide +kernel
theorem d_M_publish_178 : decode b_M_publish 178 = .ok (.iload_n 2, 1) := by decide +kernel
theorem d_M_publish_179 : decode b_M_publish 179 = .ok (.invokevirtual 209, 3) := by decide +kernel
theorem d_M_publish_182 : decode b_M_publish 182 = .ok (.aload_n 0, 1) := by decide +kernel
theorem d_M_publish_183 : decode b_M_publish 183 = .ok (.iload_n 2, 1) := by decide +kernel
theorem d_M_publish_184 : decode b_M_publish 184 = .ok (.iload_n 1, 1) := by decide +kernel
theorem d_M_publish_185 : decode b_M_publish 185 = .ok (.invokevirtual 212, 3) := by decide +kernel
theorem d_M_publish_188 : decode b_M_publish 188 = .ok (.iinc 1 1, 3) := by decide +kernel
theorem d_M_publish_191 : decode b_M_publish 191 = .ok (.goto (-51), 3) := by decide +kernel
theorem d_M_publish_194 : decode b_M_publish 194 = .ok (.aload_n 0, 1) := by decide +kernel
theorem d_M_publish_195 : decode b_M_publish 195 = .ok (.getfield 193, 3) := by decide +kernel
theorem d_M_publish_198 : decode b_M_publish 198 = .ok (.aload_n 0, 1) := by decide +kernel
theorem d_M_publish_199 : decode b_M_publish 199 = .ok (.getfield 202, 3) := by decide +kernel
theorem d_M_publish_202 : decode b_M_publish 202 = .ok (.isub, 1) := by decide +kernel
theorem d_M_publish_203 : decode b_M_publish 203 = .ok (.istore_n 1, 1) := by decide +kernel
theorem d_M_publish_204 : decode b_M_publish 204 = .ok (.aload_n 0, 1) := by decide +kernel
theorem d_M_publish_205 : decode b_M_publish 205 = .ok (.getfield 193, 3) := by decide +kernel
theorem d_M_publish_208 : decode b_M_publish 208 = .ok (.istore_n 2, 1) := by decide +kernel
theorem d_M_publish_209 : decode b_M_publish 209 = .ok (.iload_n 2, 1) := by decide +kernel
theorem d_M_publish_210 : decode b_M_publish 210 = .ok (.aload_n 0, 1) := by decide +kernel
theorem d_M_publish_211 : decode b_M_publish 211 = .ok (.getfield 99, 3) := by decide +kernel
theorem d_M_publish_214 : decode b_M_publish 214 = .ok (.if_icmp .ge 21, 3) := by decide +kernel
theorem d_M_publish_217 : decode b_M_publish 217 = .ok (.iload_n 1, 1) := by decide +kernel
theorem d_M_publish_218 : decode b_M_publish 218 = .ok (.ifCond .le 17, 3) := by decide +kernel
theorem d_M_publish_221 : decode b_M_publish 221 = .ok (.aload_n 0, 1) := by decide +kernel
theorem d_M_publish_222 : decode b_M_publish 222 = .ok (.iload_n 2, 1) := by decide +kernel
theorem d_M_publish_223 : decode b_M_publish 223 = .ok (.iload_n 2, 1) := by decide +kernel
theorem d_M_publish_224 : decode b_M_publish 224 = .ok (.iload_n 1, 1) := by decide +kernel
theorem d_M_publish_225 : decode b_M_publish 225 = .ok (.isub, 1) := by decide +kernel
theorem d_M_publish_226 : decode b_M_publish 226 = .ok (.invokevirtual 212, 3) := by decide +kernel
theorem d_M_publish_229 : decode b_M_publish 229 = .ok (.iinc 2 1, 3) := by decide +kernel
theorem d_M_publish_232 : decode b_M_publish 232 = .ok (.goto (-23), 3) := by decide +kernel
theorem d_M_publish_235 : decode b_M_publish 235 = .ok (.aload_n 0, 1) := by decide +kernel
theorem d_M_publish_236 : decode b_M_publish 236 = .ok (.aload_n 0, 1) := by decide +kernel
theorem d_M_publish_237 : decode b_M_publish 237 = .ok (.getfield 99, 3) := by decide +kernel
theorem d_M_publish_240 : decode b_M_publish 240 = .ok (.iload_n 1, 1) := by decide +kernel
theorem d_M_publish_241 : decode b_M_publish 241 = .ok (.isub, 1) := by decide +kernel
theorem d_M_publish_242 : decode b_M_publish 242 = .ok (.putfield 99, 3) := by decide +kernel
theorem d_M_publish_245 : decode b_M_publish 245 = .ok (.aload_n 0, 1) := by decide +kernel
theorem d_M_publish_246 : decode b_M_publish 246 = .ok (.iconst 0, 1) := by decide +kernel
theorem d_M_publish_247 : decode b_M_publish 247 = .ok (.putfield 175, 3) := by decide +kernel
theorem d_M_publish_250 : decode b_M_publish 250 = .ok (.return_, 1) := by decide +kernel
theorem d_M_merge_0 : decode b_M_merge 0 = .ok (.aload_n 0, 1) := by decide +kernel
theorem d_M_merge_1 : decode b_M_merge 1 = .ok (.getfield 102, 3) := by decide +kernel
theorem d_M_merge_4 : decode b_M_merge 4 = .ok (.ifCond .eq 12, 3) := by decide +kernel
theorem d_M_merge_7 : decode b_M_merge 7 = .ok (.aload_n 0, 1) := by decide +kernel
theorem d_M_merge_8 : decode b_M_merge 8 = .ok (.getfield 99, 3) := by decide +kernel
theorem d_M_merge_11 : decode b_M_merge 11 = .ok (.iconst 1, 1) := by decide +kernel
theorem d_M_merge_12 : decode b_M_merge 12 = .ok (.isub, 1) := by decide +kernel
theorem d_M_merge_13 : decode b_M_merge 13 = .ok (.goto 7, 3) := by decide +kernel
theorem d_M_merge_16 : decode b_M_merge 16 = .ok (.aload_n 0, 1) := by decide +kernel
theorem d_M_merge_17 : decode b_M_merge 17 = .ok (.getfield 99, 3) := by decide +kernel
theorem d_M_merge_20 : decode b_M_merge 20 = .ok (.istore_n 2, 1) := by decide +kernel
theorem d_M_merge_21 : decode b_M_merge 21 = .ok (.aload_n 0, 1) := by decide +kernel
theorem d_M_merge_22 : decode b_M_merge 22 = .ok (.iload_n 1, 1) := by decide +kernel
theorem d_M_merge_23 : decode b_M_merge 23 = .ok (.iconst 1, 1) := by decide +kernel
theorem d_M_merge_24 : decode b_M_merge 24 = .ok (.bipush 20, 2) := by decide +kernel
theorem d_M_merge_26 : decode b_M_merge 26 = .ok (.invokestatic 133, 3) := by decide +kernel
theorem d_M_merge_29 : decode b_M_merge 29 = .ok (.ifCond .ne 7, 3) := by decide +kernel
theorem d_M_merge_32 : decode b_M_merge 32 = .ok (.iconst 1, 1) := by decide +kernel
theorem d_M_merge_33 : decode b_M_merge 33 = .ok (.goto 26, 3) := by decide +kernel
theorem d_M_merge_36 : decode b_M_merge 36 = .ok (.aload_n 0, 1) := by decide +kernel
theorem d_M_merge_37 : decode b_M_merge 37 = .ok (.getfield 137, 3) := by decide +kernel
theorem d_M_merge_40 : decode b_M_merge 40 = .ok (.ifCond .ne 14, 3) := by decide +kernel
theorem d_M_merge_43 : decode b_M_merge 43 = .ok (.aload_n 0, 1) := by decide +kernel
theorem d_M_merge_44 : decode b_M_merge 44 = .ok (.getfield 175, 3) := by decide +kernel
theorem d_M_merge_47 : decode b_M_merge 47 = .ok (.ifCond .ne 11, 3) := by decide +kernel
theorem d_M_merge_50 : decode b_M_merge 50 = .ok (.iload_n 2, 1) := by decide +kernel
theorem d_M_merge_51 : decode b_M_merge 51 = .ok (.ifCond .ne 7, 3) := by decide +kernel
theorem d_M_merge_54 : decode b_M_merge 54 = .ok (.iconst 2, 1) := by decide +kernel
theorem d_M_merge_55 : decode b_M_merge 55 = .ok (.goto 4, 3) := by decide +kernel
theorem d_M_merge_58 : decode b_M_merge 58 = .ok (.iconst 0, 1) := by decide +kernel
theorem d_M_merge_59 : decode b_M_merge 59 = .ok (.putfield 63, 3) := by decide +kernel
theorem d_M_merge_62 : decode b_M_merge 62 = .ok (.aload_n 0, 1) := by decide +kernel
theorem d_M_merge_63 : decode b_M_merge 63 = .ok (.getfield 63, 3) := by decide +kernel
theorem d_M_merge_66 : decode b_M_merge 66 = .ok (.ifCond .le 5, 3) := by decide +kernel
theorem d_M_merge_69 : decode b_M_merge 69 = .ok (.iconst 0, 1) := by decide +kernel
theorem d_M_merge_70 : decode b_M_merge 70 = .ok (.ireturn, 1) := by decide +kernel
theorem d_M_merge_71 : decode b_M_merge 71 = .ok (.aload_n 0, 1) := by decide +kernel
theorem d_M_merge_72 : decode b_M_merge 72 = .ok (.getfield 175, 3) := by decide +kernel
theorem d_M_merge_75 : decode b_M_merge 75 = .ok (.ifCond .ne 32, 3) := by decide +kernel
theorem d_M_merge_78 : decode b_M_merge 78 = .ok (.aload_n 0, 1) := by decide +kernel
theorem d_M_merge_79 : decode b_M_merge 79 = .ok (.iconst 1, 1) := by decide +kernel
theorem d_M_merge_80 : decode b_M_merge 80 = .ok (.putfield 175, 3) := by decide +kernel
theorem d_M_merge_83 : decode b_M_merge 83 = .ok (.aload_n 0, 1) := by decide +kernel
theorem d_M_merge_84 : decode b_M_merge 84 = .ok (.iload_n 2, 1) := by decide +kernel
theorem d_M_merge_85 : decode b_M_merge 85 = .ok (.putfield 193, 3) := by decide +kernel
theorem d_M_merge_88 : decode b_M_merge 88 = .ok (.aload_n 0, 1) := by decide +kernel
theorem d_M_merge_89 : decode b_M_merge 89 = .ok (.iconst 0, 1) := by decide +kernel
theorem d_M_merge_90 : decode b_M_merge 90 = .ok (.putfield 190, 3) := by decide +kernel
theorem d_M_merge_93 : decode b_M_merge 93 = .ok (.aload_n 0, 1) := by decide +kernel
theorem d_M_merge_94 : decode b_M_merge 94 = .ok (.iconst 0, 1) := by decide +kernel
theorem d_M_merge_95 : decode b_M_merge 95 = .ok (.putfield 196, 3) := by decide +kernel
theorem d_M_merge_98 : decode b_M_merge 98 = .ok (.aload_n 0, 1) := by decide +kernel
theorem d_M_merge_99 : decode b_M_merge 99 = .ok (.iconst 0, 1) := by decide +kernel
theorem d_M_merge_100 : decode b_M_merge 100 = .ok (.putfield 202, 3) := by decide +kernel
theorem d_M_merge_103 : decode b_M_merge 103 = .ok (.aload_n 0, 1) := by decide +kernel
theorem d_M_merge_104 : decode b_M_merge 104 = .ok (.invokevirtual 205, 3) := by decide +kernel
theorem d_M_merge_107 : decode b_M_merge 107 = .ok (.iconst 0, 1) := by decide +kernel
theorem d_M_merge_108 : decode b_M_merge 108 = .ok (.istore_n 3, 1) := by decide +kernel
theorem d_M_merge_109 : decode b_M_merge 109 = .ok (.iload_n 3, 1) := by decide +kernel
theorem d_M_merge_110 : decode b_M_merge 110 = .ok (.iload_n 1, 1) := by decide +kernel
theorem d_M_merge_111 : decode b_M_merge 111 = .ok (.if_icmp .ge 24, 3) := by decide +kernel
theorem d_M_merge_114 : decode b_M_merge 114 = .ok (.aload_n 0, 1) := by decide +kernel
theorem d_M_merge_115 : decode b_M_merge 115 = .ok (.getfield 190, 3) := by decide +kernel
theorem d_M_merge_118 : decode b_M_merge 118 = .ok (.aload_n 0, 1) := by decide +kernel
theorem d_M_merge_119 : decode b_M_merge 119 = .ok (.getfield 193, 3) := by decide +kernel
theorem d_M_merge_122 : decode b_M_merge 122 = .ok (.if_icmp .ge 13, 3) := by decide +kernel
theorem d_M_merge_125 : decode b_M_merge 125 = .ok (.aload_n 0, 1) := by decide +kernel
theorem d_M_merge_126 : decode b_M_merge 126 = .ok (.invokevirtual 215, 3) := by decide +kernel
theorem d_M_merge_129 : decode b_M_merge 129 = .ok (.iinc 3 1, 3) := by decide +kernel
theorem d_M_merge_132 : decode b_M_merge 132 = .ok (.goto (-23), 3) := by decide +kernel
theorem d_M_merge_135 : decode b_M_merge 135 = .ok (.aload_n 0, 1) := by decide +kernel
theorem d_M_merge_136 : decode b_M_merge 136 = .ok (.getfield 190, 3) := by decide +kernel
theorem d_M_merge_139 : decode b_M_merge 139 = .ok (.aload_n 0, 1) := by decide +kernel
theorem d_M_merge_140 : decode b_M_merge 140 = .ok (.getfield 193, 3) := by decide +kernel
theorem d_M_merge_143 : decode b_M_merge 143 = .ok (.if_icmp .ge 5, 3) := by decide +kernel
theorem d_M_merge_146 : decode b_M_merge 146 = .ok (.iconst 0, 1) := by decide +kernel
theorem d_M_merge_147 : decode b_M_merge 147 = .ok (.ireturn, 1) := by decide +kernel
theorem d_M_merge_148 : decode b_M_merge 148 = .ok (.aload_n 0, 1) := by decide +kernel
theorem d_M_merge_149 : decode b_M_merge 149 = .ok (.invokevirtual 218, 3) := by decide +kernel
theorem d_M_merge_152 : decode b_M_merge 152 = .ok (.iconst 1, 1) := by decide +kernel
theorem d_M_merge_153 : decode b_M_merge 153 = .ok (.ireturn, 1) := by decide +kernel
theorem d_M_files_0 : decode b_M_files 0 = .ok (.aload_n 0, 1) := by decide +kernel
theorem d_M_files_1 : decode b_M_files 1 = .ok (.iconst 0, 1) := by decide +kernel
theorem d_M_files_2 : decode b_M_files 2 = .ok (.putfield 63, 3) := by decide +kernel
theorem d_M_files_5 : decode b_M_files 5 = .ok (.aload_n 0, 1) := by decide +kernel
theorem d_M_files_6 : decode b_M_files 6 = .ok (.getfield 99, 3) := by decide +kernel
theorem d_M_files_9 : decode b_M_files 9 = .ok (.ireturn, 1) := by decide +kernel
theorem d_M_file_0 : decode b_M_file 0 = .ok (.aload_n 0, 1) := by decide +kernel
theorem d_M_file_1 : decode b_M_file 1 = .ok (.iload_n 1, 1) := by decide +kernel
theorem d_M_file_2 : decode b_M_file 2 = .ok (.iconst 0, 1) := by decide +kernel
theorem d_M_file_3 : decode b_M_file 3 = .ok (.aload_n 0, 1) := by decide +kernel
theorem d_M_file_4 : decode b_M_file 4 = .ok (.getfield 99, 3) := by decide +kernel
theorem d_M_file_7 : decode b_M_file 7 = .ok (.iconst 1, 1) := by decide +kernel
theorem d_M_file_8 : decode b_M_file 8 = .ok (.isub, 1) := by decide +kernel
theorem d_M_file_9 : decode b_M_file 9 = .ok (.invokestatic 133, 3) := by decide +kernel
theorem d_M_file_12 : decode b_M_file 12 = .ok (.ifCond .eq 16, 3) := by decide +kernel
theorem d_M_file_15 : decode b_M_file 15 = .ok (.iload_n 2, 1) := by decide +kernel
theorem d_M_file_16 : decode b_M_file 16 = .ok (.iconst 0, 1) := by decide +kernel
theorem d_M_file_17 : decode b_M_file 17 = .ok (.iconst 4, 1) := by decide +kernel
theorem d_M_file_18 : decode b_M_file 18 = .ok (.invokestatic 133, 3) := by decide +kernel
theorem d_M_file_21 : decode b_M_file 21 = .ok (.ifCond .eq 7, 3) := by decide +kernel
theorem d_M_file_24 : decode b_M_file 24 = .ok (.iconst 0, 1) := by decide +kernel
theorem d_M_file_25 : decode b_M_file 25 = .ok (.goto 4, 3) := by decide +kernel
theorem d_M_file_28 : decode b_M_file 28 = .ok (.iconst 1, 1) := by decide +kernel
theorem d_M_file_29 : decode b_M_file 29 = .ok (.putfield 63, 3) := by decide +kernel
theorem d_M_file_32 : decode b_M_file 32 = .ok (.aload_n 0, 1) := by decide +kernel
theorem d_M_file_33 : decode b_M_file 33 = .ok (.getfield 63, 3) := by decide +kernel
theorem d_M_file_36 : decode b_M_file 36 = .ok (.ifCond .le 5, 3) := by decide +kernel
theorem d_M_file_39 : decode b_M_file 39 = .ok (.iconst 0, 1) := by decide +kernel
theorem d_M_file_40 : decode b_M_file 40 = .ok (.ireturn, 1) := by decide +kernel
theorem d_M_file_41 : decode b_M_file 41 = .ok (.iload_n 2, 1) := by decide +kernel
theorem d_M_file_42 : decode b_M_file 42 = .ok (.iconst 3, 1) := by decide +kernel
theorem d_M_file_43 : decode b_M_file 43 = .ok (.if_icmp .ne 9, 3) := by decide +kernel
theorem d_M_file_46 : decode b_M_file 46 = .ok (.aload_n 0, 1) := by decide +kernel
theorem d_M_file_47 : decode b_M_file 47 = .ok (.iload_n 1, 1) := by decide +kernel
theorem d_M_file_48 : decode b_M_file 48 = .ok (.invokevirtual 221, 3) := by decide +kernel
theorem d_M_file_51 : decode b_M_file 51 = .ok (.ireturn, 1) := by decide +kernel
theorem d_M_file_52 : decode b_M_file 52 = .ok (.iload_n 2, 1) := by decide +kernel
theorem d_M_file_53 : decode b_M_file 53 = .ok (.ifCond .ne 12, 3) := by decide +kernel
theorem d_M_file_56 : decode b_M_file 56 = .ok (.aload_n 0, 1) := by decide +kernel
theorem d_M_file_57 : decode b_M_file 57 = .ok (.getfield 7, 3) := by decide +kernel
theorem d_M_file_60 : decode b_M_file 60 = .ok (.iload_n 1, 1) := by decide +kernel
theorem d_M_file_61 : decode b_M_file 61 = .ok (.iaload, 1) := by decide +kernel
theorem d_M_file_62 : decode b_M_file 62 = .ok (.goto 50, 3) := by decide +kernel
theorem d_M_file_65 : decode b_M_file 65 = .ok (.iload_n 2, 1) := by decide +kernel
theorem d_M_file_66 : decode b_M_file 66 = .ok (.iconst 1, 1) := by decide +kernel
theorem d_M_file_67 : decode b_M_file 67 = .ok (.if_icmp .ne 12, 3) := by decide +kernel
theorem d_M_file_70 : decode b_M_file 70 = .ok (.aload_n 0, 1) := by decide +kernel
theorem d_M_file_71 : decode b_M_file 71 = .ok (.getfield 13, 3) := by decide +kernel
theorem d_M_file_74 : decode b_M_file 74 = .ok (.iload_n 1, 1) := by decide +kernel
theorem d_M_file_75 : decode b_M_file 75 = .ok (.iaload, 1) := by decide +kernel
theorem d_M_file_76 : decode b_M_file 76 = .ok (.goto 36, 3) := by decide +kernel
theorem d_M_file_79 : decode b_M_file 79 = .ok (.iload_n 2, 1) := by decide +kernel
theorem d_M_file_80 : decode b_M_file 80 = .ok (.iconst 2, 1) := by decide +kernel
theorem d_M_file_81 : decode b_M_file 81 = .ok (.if_icmp .ne 12, 3) := by decide +kernel
theorem d_M_file_84 : decode b_M_file 84 = .ok (.aload_n 0, 1) := by decide +kernel
theorem d_M_file_85 : decode b_M_file 85 = .ok (.getfield 16, 3) := by decide +kernel
theorem d_M_file_88 : decode b_M_file 88 = .ok (.iload_n 1, 1) := by decide +kernel
theorem d_M_file_89 : decode b_M_file 89 = .ok (.iaload, 1) := by decide +kernel
theorem d_M_file_90 : decode b_M_file 90 = .ok (.goto 22, 3) := by decide +kernel
theorem d_M_file_93 : decode b_M_file 93 = .ok (.aload_n 0, 1) := by decide +kernel
theorem d_M_file_94 : decode b_M_file 94 = .ok (.getfield 22, 3) := by decide +kernel
theorem d_M_file_97 : decode b_M_file 97 = .ok (.iload_n 1, 1) := by decide +kernel
theorem d_M_file_98 : decode b_M_file 98 = .ok (.baload, 1) := by decide +kernel
theorem d_M_file_99 : decode b_M_file 99 = .ok (.ifCond .eq 12, 3) := by decide +kernel
theorem d_M_file_102 : decode b_M_file 102 = .ok (.aload_n 0, 1) := by decide +kernel
theorem d_M_file_103 : decode b_M_file 103 = .ok (.getfield 26, 3) := by decide +kernel
theorem d_M_file_106 : decode b_M_file 106 = .ok (.iload_n 1, 1) := by decide +kernel
theorem d_M_file_107 : decode b_M_file 107 = .ok (.iaload, 1) := by decide +kernel
theorem d_M_file_108 : decode b_M_file 108 = .ok (.goto 4, 3) := by decide +kernel
theorem d_M_file_111 : decode b_M_file 111 = .ok (.iconst 0, 1) := by decide +kernel
theorem d_M_file_112 : decode b_M_file 112 = .ok (.ireturn, 1) := by decide +kernel
theorem d_M_liveIn_0 : decode b_M_liveIn 0 = .ok (.iconst 0, 1) := by decide +kernel
theorem d_M_liveIn_1 : decode b_M_liveIn 1 = .ok (.istore_n 2, 1) := by decide +kernel
theorem d_M_liveIn_2 : decode b_M_liveIn 2 = .ok (.iconst 0, 1) := by decide +kernel
theorem d_M_liveIn_3 : decode b_M_liveIn 3 = .ok (.istore_n 3, 1) := by decide +kernel
theorem d_M_liveIn_4 : decode b_M_liveIn 4 = .ok (.iload_n 3, 1) := by decide +kernel
theorem d_M_liveIn_5 : decode b_M_liveIn 5 = .ok (.aload_n 0, 1) := by decide +kernel
theorem d_M_liveIn_6 : decode b_M_liveIn 6 = .ok (.getfield 85, 3) := by decide +kernel
theorem d_M_liveIn_9 : decode b_M_liveIn 9 = .ok (.if_icmp .ge 49, 3) := by decide +kernel
theorem d_M_liveIn_12 : decode b_M_liveIn 12 = .ok (.aload_n 0, 1) := by decide +kernel
theorem d_M_liveIn_13 : decode b_M_liveIn 13 = .ok (.getfield 137, 3) := by decide +kernel
theorem d_M_liveIn_16 : decode b_M_liveIn 16 = .ok (.ifCond .ne 42, 3) := by decide +kernel
theorem d_M_liveIn_19 : decode b_M_liveIn 19 = .ok (.aload_n 0, 1) := by decide +kernel
theorem d_M_liveIn_20 : decode b_M_liveIn 20 = .ok (.getfield 57, 3) := by decide +kernel
theorem d_M_liveIn_23 : decode b_M_liveIn 23 = .ok (.iload_n 3, 1) := by decide +kernel
theorem d_M_liveIn_24 : decode b_M_liveIn 24 = .ok (.iaload, 1) := by decide +kernel
theorem d_M_liveIn_25 : decode b_M_liveIn 25 = .ok (.aload_n 0, 1) := by decide +kernel
theorem d_M_liveIn_26 : decode b_M_liveIn 26 = .ok (.getfield 7, 3) := by decide +kernel
theorem d_M_liveIn_29 : decode b_M_liveIn 29 = .ok (.iload_n 1, 1) := by decide +kernel
theorem d_M_liveIn_30 : decode b_M_liveIn 30 = .ok (.iaload, 1) := by decide +kernel
theorem d_M_liveIn_31 : decode b_M_liveIn 31 = .ok (.if_icmp .ne 19, 3) := by decide +kernel
theorem d_M_liveIn_34 : decode b_M_liveIn 34 = .ok (.iload_n 2, 1) := by decide +kernel
theorem d_M_liveIn_35 : decode b_M_liveIn 35 = .ok (.aload_n 0, 1) := by decide +kernel
theorem d_M_liveIn_36 : decode b_M_liveIn 36 = .ok (.iload_n 1, 1) := by decide +kernel
theorem d_M_liveIn_37 : decode b_M_liveIn 37 = .ok (.aload_n 0, 1) := by decide +kernel
theorem d_M_liveIn_38 : decode b_M_liveIn 38 = .ok (.getfield 60, 3) := by decide +kernel
theorem d_M_liveIn_41 : decode b_M_liveIn 41 = .ok (.iload_n 3, 1) := by decide +kernel
theorem d_M_liveIn_42 : decode b_M_liveIn 42 = .ok (.iaload, 1) := by decide +kernel
theorem d_M_liveIn_43 : decode b_M_liveIn 43 = .ok (.invokevirtual 166, 3) := by decide +kernel
theorem d_M_liveIn_46 : decode b_M_liveIn 46 = .ok (.iadd, 1) := by decide +kernel
theorem d_M_liveIn_47 : decode b_M_liveIn 47 = .ok (.goto 4, 3) := by decide +kernel
theorem d_M_liveIn_50 : decode b_M_liveIn 50 = .ok (.iload_n 2, 1) := by decide +kernel
theorem d_M_liveIn_51 : decode b_M_liveIn 51 = .ok (.istore_n 2, 1) := by decide +kernel
theorem d_M_liveIn_52 : decode b_M_liveIn 52 = .ok (.iinc 3 1, 3) := by decide +kernel
theorem d_M_liveIn_55 : decode b_M_liveIn 55 = .ok (.goto (-51), 3) := by decide +kernel
theorem d_M_liveIn_58 : decode b_M_liveIn 58 = .ok (.iload_n 2, 1) := by decide +kernel
theorem d_M_liveIn_59 : decode b_M_liveIn 59 = .ok (.ireturn, 1) := by decide +kernel
theorem d_M_isByte_0 : decode b_M_isByte 0 = .ok (.iload_n 1, 1) := by decide +kernel
theorem d_M_isByte_1 : decode b_M_isByte 1 = .ok (.iconst 0, 1) := by decide +kernel
theorem d_M_isByte_2 : decode b_M_isByte 2 = .ok (.aload_n 0, 1) := by decide +kernel
theorem d_M_isByte_3 : decode b_M_isByte 3 = .ok (.getfield 99, 3) := by decide +kernel
theorem d_M_isByte_6 : decode b_M_isByte 6 = .ok (.iconst 1, 1) := by decide +kernel
theorem d_M_isByte_7 : decode b_M_isByte 7 = .ok (.isub, 1) := by decide +kernel
theorem d_M_isByte_8 : decode b_M_isByte 8 = .ok (.invokestatic 133, 3) := by decide +kernel
theorem d_M_isByte_11 : decode b_M_isByte 11 = .ok (.ifCond .eq 55, 3) := by decide +kernel
theorem d_M_isByte_14 : decode b_M_isByte 14 = .ok (.iload_n 3, 1) := by decide +kernel
theorem d_M_isByte_15 : decode b_M_isByte 15 = .ok (.ifCond .eq 31, 3) := by decide +kernel
theorem d_M_isByte_18 : decode b_M_isByte 18 = .ok (.aload_n 0, 1) := by decide +kernel
theorem d_M_isByte_19 : decode b_M_isByte 19 = .ok (.getfield 22, 3) := by decide +kernel
theorem d_M_isByte_22 : decode b_M_isByte 22 = .ok (.iload_n 1, 1) := by decide +kernel
theorem d_M_isByte_23 : decode b_M_isByte 23 = .ok (.baload, 1) := by decide +kernel
theorem d_M_isByte_24 : decode b_M_isByte 24 = .ok (.ifCond .eq 42, 3) := by decide +kernel
theorem d_M_isByte_27 : decode b_M_isByte 27 = .ok (.iload_n 2, 1) := by decide +kernel
theorem d_M_isByte_28 : decode b_M_isByte 28 = .ok (.iconst 0, 1) := by decide +kernel
theorem d_M_isByte_29 : decode b_M_isByte 29 = .ok (.aload_n 0, 1) := by decide +kernel
theorem d_M_isByte_30 : decode b_M_isByte 30 = .ok (.getfield 26, 3) := by decide +kernel
theorem d_M_isByte_33 : decode b_M_isByte 33 = .ok (.iload_n 1, 1) := by decide +kernel
theorem d_M_isByte_34 : decode b_M_isByte 34 = .ok (.iaload, 1) := by decide +kernel
theorem d_M_isByte_35 : decode b_M_isByte 35 = .ok (.iconst 1, 1) := by decide +kernel
theorem d_M_isByte_36 : decode b_M_isByte 36 = .ok (.isub, 1) := by decide +kernel
theorem d_M_isByte_37 : decode b_M_isByte 37 = .ok (.invokestatic 133, 3) := by decide +kernel
theorem d_M_isByte_40 : decode b_M_isByte 40 = .ok (.ifCond .eq 26, 3) := by decide +kernel
theorem d_M_isByte_43 : decode b_M_isByte 43 = .ok (.goto 19, 3) := by decide +kernel
theorem d_M_isByte_46 : decode b_M_isByte 46 = .ok (.iload_n 2, 1) := by decide +kernel
theorem d_M_isByte_47 : decode b_M_isByte 47 = .ok (.iconst 0, 1) := by decide +kernel
theorem d_M_isByte_48 : decode b_M_isByte 48 = .ok (.aload_n 0, 1) := by decide +kernel
theorem d_M_isByte_49 : decode b_M_isByte 49 = .ok (.getfield 13, 3) := by decide +kernel
theorem d_M_isByte_52 : decode b_M_isByte 52 = .ok (.iload_n 1, 1) := by decide +kernel
theorem d_M_isByte_53 : decode b_M_isByte 53 = .ok (.iaload, 1) := by decide +kernel
theorem d_M_isByte_54 : decode b_M_isByte 54 = .ok (.iconst 1, 1) := by decide +kernel
theorem d_M_isByte_55 : decode b_M_isByte 55 = .ok (.isub, 1) := by decide +kernel
theorem d_M_isByte_56 : decode b_M_isByte 56 = .ok (.invokestatic 133, 3) := by decide +kernel
theorem d_M_isByte_59 : decode b_M_isByte 59 = .ok (.ifCond .eq 7, 3) := by decide +kernel
theorem d_M_isByte_62 : decode b_M_isByte 62 = .ok (.iconst 1, 1) := by decide +kernel
theorem d_M_isByte_63 : decode b_M_isByte 63 = .ok (.goto 4, 3) := by decide +kernel
theorem d_M_isByte_66 : decode b_M_isByte 66 = .ok (.iconst 0, 1) := by decide +kernel
theorem d_M_isByte_67 : decode b_M_isByte 67 = .ok (.ireturn, 1) := by decide +kernel
theorem d_M_octet_0 : decode b_M_octet 0 = .ok (.aload_n 0, 1) := by decide +kernel
theorem d_M_octet_1 : decode b_M_octet 1 = .ok (.aload_n 0, 1) := by decide +kernel
theorem d_M_octet_2 : decode b_M_octet 2 = .ok (.iload_n 1, 1) := by decide +kernel
theorem d_M_octet_3 : decode b_M_octet 3 = .ok (.iload_n 2, 1) := by decide +kernel
theorem d_M_octet_4 : decode b_M_octet 4 = .ok (.iload_n 3, 1) := by decide +kernel
theorem d_M_octet_5 : decode b_M_octet 5 = .ok (.invokevirtual 224, 3) := by decide +kernel
theorem d_M_octet_8 : decode b_M_octet 8 = .ok (.ifCond .eq 7, 3) := by decide +kernel
theorem d_M_octet_11 : decode b_M_octet 11 = .ok (.iconst 0, 1) := by decide +kernel
theorem d_M_octet_12 : decode b_M_octet 12 = .ok (.goto 4, 3) := by decide +kernel
theorem d_M_octet_15 : decode b_M_octet 15 = .ok (.iconst 1, 1) := by decide +kernel
theorem d_M_octet_16 : decode b_M_octet 16 = .ok (.putfield 63, 3) := by decide +kernel
theorem d_M_octet_19 : decode b_M_octet 19 = .ok (.aload_n 0, 1) := by decide +kernel
theorem d_M_octet_20 : decode b_M_octet 20 = .ok (.getfield 63, 3) := by decide +kernel
theorem d_M_octet_23 : decode b_M_octet 23 = .ok (.ifCond .le 5, 3) := by decide +kernel
theorem d_M_octet_26 : decode b_M_octet 26 = .ok (.iconst 0, 1) := by decide +kernel
theorem d_M_octet_27 : decode b_M_octet 27 = .ok (.ireturn, 1) := by decide +kernel
theorem d_M_octet_28 : decode b_M_octet 28 = .ok (.iload_n 3, 1) := by decide +kernel
theorem d_M_octet_29 : decode b_M_octet 29 = .ok (.ifCond .eq 17, 3) := by decide +kernel
theorem d_M_octet_32 : decode b_M_octet 32 = .ok (.aload_n 0, 1) := by decide +kernel
theorem d_M_octet_33 : decode b_M_octet 33 = .ok (.getfield 29, 3) := by decide +kernel
theorem d_M_octet_36 : decode b_M_octet 36 = .ok (.bipush 120, 2) := by decide +kernel
theorem d_M_octet_38 : decode b_M_octet 38 = .ok (.iload_n 1, 1) := by decide +kernel
theorem d_M_octet_39 : decode b_M_octet 39 = .ok (.imul, 1) := by decide +kernel
theorem d_M_octet_40 : decode b_M_octet 40 = .ok (.iload_n 2, 1) := by decide +kernel
theorem d_M_octet_41 : decode b_M_octet 41 = .ok (.iadd, 1) := by decide +kernel
theorem d_M_octet_42 : decode b_M_octet 42 = .ok (.iaload, 1) := by decide +kernel
theorem d_M_octet_43 : decode b_M_octet 43 = .ok (.goto 14, 3) := by decide +kernel
theorem d_M_octet_46 : decode b_M_octet 46 = .ok (.aload_n 0, 1) := by decide +kernel
theorem d_M_octet_47 : decode b_M_octet 47 = .ok (.getfield 19, 3) := by decide +kernel
theorem d_M_octet_50 : decode b_M_octet 50 = .ok (.bipush 100, 2) := by decide +kernel
theorem d_M_octet_52 : decode b_M_octet 52 = .ok (.iload_n 1, 1) := by decide +kernel
theorem d_M_octet_53 : decode b_M_octet 53 = .ok (.imul, 1) := by decide +kernel
theorem d_M_octet_54 : decode b_M_octet 54 = .ok (.iload_n 2, 1) := by decide +kernel
theorem d_M_octet_55 : decode b_M_octet 55 = .ok (.iadd, 1) := by decide +kernel
theorem d_M_octet_56 : decode b_M_octet 56 = .ok (.iaload, 1) := by decide +kernel
theorem d_M_octet_57 : decode b_M_octet 57 = .ok (.ireturn, 1) := by decide +kernel
theorem d_M_spoil_0 : decode b_M_spoil 0 = .ok (.aload_n 0, 1) := by decide +kernel
theorem d_M_spoil_1 : decode b_M_spoil 1 = .ok (.aload_n 0, 1) := by decide +kernel
theorem d_M_spoil_2 : decode b_M_spoil 2 = .ok (.iload_n 1, 1) := by decide +kernel
theorem d_M_spoil_3 : decode b_M_spoil 3 = .ok (.iload_n 2, 1) := by decide +kernel
theorem d_M_spoil_4 : decode b_M_spoil 4 = .ok (.iload_n 3, 1) := by decide +kernel
theorem d_M_spoil_5 : decode b_M_spoil 5 = .ok (.invokevirtual 224, 3) := by decide +kernel
theorem d_M_spoil_8 : decode b_M_spoil 8 = .ok (.ifCond .eq 7, 3) := by decide +kernel
theorem d_M_spoil_11 : decode b_M_spoil 11 = .ok (.iconst 0, 1) := by decide +kernel
theorem d_M_spoil_12 : decode b_M_spoil 12 = .ok (.goto 4, 3) := by decide +kernel
theorem d_M_spoil_15 : decode b_M_spoil 15 = .ok (.iconst 1, 1) := by decide +kernel
theorem d_M_spoil_16 : decode b_M_spoil 16 = .ok (.putfield 63, 3) := by decide +kernel
theorem d_M_spoil_19 : decode b_M_spoil 19 = .ok (.aload_n 0, 1) := by decide +kernel
theorem d_M_spoil_20 : decode b_M_spoil 20 = .ok (.getfield 63, 3) := by decide +kernel
theorem d_M_spoil_23 : decode b_M_spoil 23 = .ok (.ifCond .le 4, 3) := by decide +kernel
theorem d_M_spoil_26 : decode b_M_spoil 26 = .ok (.return_, 1) := by decide +kernel
theorem d_M_spoil_27 : decode b_M_spoil 27 = .ok (.iload_n 3, 1) := by decide +kernel
theorem d_M_spoil_28 : decode b_M_spoil 28 = .ok (.ifCond .eq 35, 3) := by decide +kernel
theorem d_M_spoil_31 : decode b_M_spoil 31 = .ok (.aload_n 0, 1) := by decide +kernel
theorem d_M_spoil_32 : decode b_M_spoil 32 = .ok (.getfield 29, 3) := by decide +kernel
theorem d_M_spoil_35 : decode b_M_spoil 35 = .ok (.bipush 120, 2) := by decide +kernel
theorem d_M_spoil_37 : decode b_M_spoil 37 = .ok (.iload_n 1, 1) := by decide +kernel
theorem d_M_spoil_38 : decode b_M_spoil 38 = .ok (.imul, 1) := by decide +kernel
theorem d_M_spoil_39 : decode b_M_spoil 39 = .ok (.iload_n 2, 1) := by decide +kernel
theorem d_M_spoil_40 : decode b_M_spoil 40 = .ok (.iadd, 1) := by decide +kernel
theorem d_M_spoil_41 : decode b_M_spoil 41 = .ok (.aload_n 0, 1) := by decide +kernel
theorem d_M_spoil_42 : decode b_M_spoil 42 = .ok (.getfield 29, 3) := by decide +kernel
theorem d_M_spoil_45 : decode b_M_spoil 45 = .ok (.bipush 120, 2) := by decide +kernel
theorem d_M_spoil_47 : decode b_M_spoil 47 = .ok (.iload_n 1, 1) := by decide +kernel
theorem d_M_spoil_48 : decode b_M_spoil 48 = .ok (.imul, 1) := by decide +kernel
theorem d_M_spoil_49 : decode b_M_spoil 49 = .ok (.iload_n 2, 1) := by decide +kernel
theorem d_M_spoil_50 : decode b_M_spoil 50 = .ok (.iadd, 1) := by decide +kernel
theorem d_M_spoil_51 : decode b_M_spoil 51 = .ok (.iaload, 1) := by decide +kernel
theorem d_M_spoil_52 : decode b_M_spoil 52 = .ok (.iload 4, 2) := by decide +kernel
theorem d_M_spoil_54 : decode b_M_spoil 54 = .ok (.sipush 255, 3) := by decide +kernel
theorem d_M_spoil_57 : decode b_M_spoil 57 = .ok (.iand, 1) := by decide +kernel
theorem d_M_spoil_58 : decode b_M_spoil 58 = .ok (.ixor, 1) := by decide +kernel
theorem d_M_spoil_59 : decode b_M_spoil 59 = .ok (.iastore, 1) := by decide +kernel
theorem d_M_spoil_60 : decode b_M_spoil 60 = .ok (.goto 32, 3) := by decide +kernel
theorem d_M_spoil_63 : decode b_M_spoil 63 = .ok (.aload_n 0, 1) := by decide +kernel
theorem d_M_spoil_64 : decode b_M_spoil 64 = .ok (.getfield 19, 3) := by decide +kernel
theorem d_M_spoil_67 : decode b_M_spoil 67 = .ok (.bipush 100, 2) := by decide +kernel
theorem d_M_spoil_69 : decode b_M_spoil 69 = .ok (.iload_n 1, 1) := by decide +kernel
theorem d_M_spoil_70 : decode b_M_spoil 70 = .ok (.imul, 1) := by decide +kernel
theorem d_M_spoil_71 : decode b_M_spoil 71 = .ok (.iload_n 2, 1) := by decide +kernel
theorem d_M_spoil_72 : decode b_M_spoil 72 = .ok (.iadd, 1) := by decide +kernel
theorem d_M_spoil_73 : decode b_M_spoil 73 = .ok (.aload_n 0, 1) := by decide +kernel
theorem d_M_spoil_74 : decode b_M_spoil 74 = .ok (.getfield 19, 3) := by decide +kernel
theorem d_M_spoil_77 : decode b_M_spoil 77 = .ok (.bipush 100, 2) := by decide +kernel
theorem d_M_spoil_79 : decode b_M_spoil 79 = .ok (.iload_n 1, 1) := by decide +kernel
theorem d_M_spoil_80 : decode b_M_spoil 80 = .ok (.imul, 1) := by decide +kernel
theorem d_M_spoil_81 : decode b_M_spoil 81 = .ok (.iload_n 2, 1) := by decide +kernel
theorem d_M_spoil_82 : decode b_M_spoil 82 = .ok (.iadd, 1) := by decide +kernel
theorem d_M_spoil_83 : decode b_M_spoil 83 = .ok (.iaload, 1) := by decide +kernel
theorem d_M_spoil_84 : decode b_M_spoil 84 = .ok (.iload 4, 2) := by decide +kernel
theorem d_M_spoil_86 : decode b_M_spoil 86 = .ok (.sipush 255, 3) := by decide +kernel
theorem d_M_spoil_89 : decode b_M_spoil 89 = .ok (.iand, 1) := by decide +kernel
theorem d_M_spoil_90 : decode b_M_spoil 90 = .ok (.ixor, 1) := by decide +kernel
theorem d_M_spoil_91 : decode b_M_spoil 91 = .ok (.iastore, 1) := by decide +kernel
theorem d_M_spoil_92 : decode b_M_spoil 92 = .ok (.return_, 1) := by decide +kernel
end
section
theorem d_L_put_0 : decode b_L_put 0 = .ok (.aload_n 0, 1) := by decide +kernel
theorem d_L_put_1 : decode b_L_put 1 = .ok (.lload_n 1, 1) := by decide +kernel
theorem d_L_put_2 : decode b_L_put 2 = .ok (.iload_n 3, 1) := by decide +kernel
theorem d_L_put_3 : decode b_L_put 3 = .ok (.lload 4, 2) := by decide +kernel
theorem d_L_put_5 : decode b_L_put 5 = .ok (.iload 6, 2) := by decide +kernel
theorem d_L_put_7 : decode b_L_put 7 = .ok (.invokevirtual 7, 3) := by decide +kernel
theorem d_L_put_10 : decode b_L_put 10 = .ok (.goto 15, 3) := by decide +kernel
theorem d_L_put_13 : decode b_L_put 13 = .ok (.astore 7, 2) := by decide +kernel
theorem d_L_put_15 : decode b_L_put 15 = .ok (.iconst 1, 1) := by decide +kernel
theorem d_L_put_16 : decode b_L_put 16 = .ok (.ireturn, 1) := by decide +kernel
theorem d_L_put_17 : decode b_L_put 17 = .ok (.astore 7, 2) := by decide +kernel
theorem d_L_put_19 : decode b_L_put 19 = .ok (.iconst 2, 1) := by decide +kernel
theorem d_L_put_20 : decode b_L_put 20 = .ok (.ireturn, 1) := by decide +kernel
theorem d_L_put_21 : decode b_L_put 21 = .ok (.astore 7, 2) := by decide +kernel
theorem d_L_put_23 : decode b_L_put 23 = .ok (.iconst 3, 1) := by decide +kernel
theorem d_L_put_24 : decode b_L_put 24 = .ok (.ireturn, 1) := by decide +kernel
theorem d_L_put_25 : decode b_L_put 25 = .ok (.iconst 0, 1) := by decide +kernel
theorem d_L_put_26 : decode b_L_put 26 = .ok (.ireturn, 1) := by decide +kernel
theorem d_L_delete_0 : decode b_L_delete 0 = .ok (.aload 4, 2) := by decide +kernel
theorem d_L_delete_2 : decode b_L_delete 2 = .ok (.iconst 0, 1) := by decide +kernel
theorem d_L_delete_3 : decode b_L_delete 3 = .ok (.aload_n 0, 1) := by decide +kernel
theorem d_L_delete_4 : decode b_L_delete 4 = .ok (.lload_n 1, 1) := by decide +kernel
theorem d_L_delete_5 : decode b_L_delete 5 = .ok (.iload_n 3, 1) := by decide +kernel
theorem d_L_delete_6 : decode b_L_delete 6 = .ok (.invokevirtual 19, 3) := by decide +kernel
theorem d_L_delete_9 : decode b_L_delete 9 = .ok (.ifCond .eq 7, 3) := by decide +kernel
theorem d_L_delete_12 : decode b_L_delete 12 = .ok (.lconst 1, 1) := by decide +kernel
theorem d_L_delete_13 : decode b_L_delete 13 = .ok (.goto 4, 3) := by decide +kernel
theorem d_L_delete_16 : decode b_L_delete 16 = .ok (.lconst 0, 1) := by decide +kernel
theorem d_L_delete_17 : decode b_L_delete 17 = .ok (.lastore, 1) := by decide +kernel
theorem d_L_delete_18 : decode b_L_delete 18 = .ok (.goto 15, 3) := by decide +kernel
theorem d_L_delete_21 : decode b_L_delete 21 = .ok (.astore 5, 2) := by decide +kernel
theorem d_L_delete_23 : decode b_L_delete 23 = .ok (.iconst 1, 1) := by decide +kernel
theorem d_L_delete_24 : decode b_L_delete 24 = .ok (.ireturn, 1) := by decide +kernel
theorem d_L_delete_25 : decode b_L_delete 25 = .ok (.astore 5, 2) := by decide +kernel
theorem d_L_delete_27 : decode b_L_delete 27 = .ok (.iconst 2, 1) := by decide +kernel
theorem d_L_delete_28 : decode b_L_delete 28 = .ok (.ireturn, 1) := by decide +kernel
theorem d_L_delete_29 : decode b_L_delete 29 = .ok (.astore 5, 2) := by decide +kernel
theorem d_L_delete_31 : decode b_L_delete 31 = .ok (.iconst 3, 1) := by decide +kernel
theorem d_L_delete_32 : decode b_L_delete 32 = .ok (.ireturn, 1) := by decide +kernel
theorem d_L_delete_33 : decode b_L_delete 33 = .ok (.iconst 0, 1) := by decide +kernel
theorem d_L_delete_34 : decode b_L_delete 34 = .ok (.ireturn, 1) := by decide +kernel
theorem d_L_get_0 : decode b_L_get 0 = .ok (.aload 4, 2) := by decide +kernel
theorem d_L_get_2 : decode b_L_get 2 = .ok (.iconst 0, 1) := by decide +kernel
theorem d_L_get_3 : decode b_L_get 3 = .ok (.aload_n 0, 1) := by decide +kernel
theorem d_L_get_4 : decode b_L_get 4 = .ok (.lload_n 1, 1) := by decide +kernel
theorem d_L_get_5 : decode b_L_get 5 = .ok (.iload_n 3, 1) := by decide +kernel
theorem d_L_get_6 : decode b_L_get 6 = .ok (.invokevirtual 23, 3) := by decide +kernel
theorem d_L_get_9 : decode b_L_get 9 = .ok (.lastore, 1) := by decide +kernel
theorem d_L_get_10 : decode b_L_get 10 = .ok (.goto 19, 3) := by decide +kernel
theorem d_L_get_13 : decode b_L_get 13 = .ok (.astore 5, 2) := by decide +kernel
theorem d_L_get_15 : decode b_L_get 15 = .ok (.iconst 1, 1) := by decide +kernel
theorem d_L_get_16 : decode b_L_get 16 = .ok (.ireturn, 1) := by decide +kernel
theorem d_L_get_17 : decode b_L_get 17 = .ok (.astore 5, 2) := by decide +kernel
theorem d_L_get_19 : decode b_L_get 19 = .ok (.iconst 2, 1) := by decide +kernel
theorem d_L_get_20 : decode b_L_get 20 = .ok (.ireturn, 1) := by decide +kernel
theorem d_L_get_21 : decode b_L_get 21 = .ok (.astore 5, 2) := by decide +kernel
theorem d_L_get_23 : decode b_L_get 23 = .ok (.iconst 3, 1) := by decide +kernel
theorem d_L_get_24 : decode b_L_get 24 = .ok (.ireturn, 1) := by decide +kernel
theorem d_L_get_25 : decode b_L_get 25 = .ok (.astore 5, 2) := by decide +kernel
theorem d_L_get_27 : decode b_L_get 27 = .ok (.iconst 4, 1) := by decide +kernel
theorem d_L_get_28 : decode b_L_get 28 = .ok (.ireturn, 1) := by decide +kernel
theorem d_L_get_29 : decode b_L_get 29 = .ok (.iconst 0, 1) := by decide +kernel
theorem d_L_get_30 : decode b_L_get 30 = .ok (.ireturn, 1) := by decide +kernel
theorem d_L_keys_0 : decode b_L_keys 0 = .ok (.aload_n 1, 1) := by decide +kernel
theorem d_L_keys_1 : decode b_L_keys 1 = .ok (.iconst 0, 1) := by decide +kernel
theorem d_L_keys_2 : decode b_L_keys 2 = .ok (.aload_n 0, 1) := by decide +kernel
theorem d_L_keys_3 : decode b_L_keys 3 = .ok (.invokevirtual 29, 3) := by decide +kernel
theorem d_L_keys_6 : decode b_L_keys 6 = .ok (.i2l, 1) := by decide +kernel
theorem d_L_keys_7 : decode b_L_keys 7 = .ok (.lastore, 1) := by decide +kernel
theorem d_L_keys_8 : decode b_L_keys 8 = .ok (.goto 6, 3) := by decide +kernel
theorem d_L_keys_11 : decode b_L_keys 11 = .ok (.astore_n 2, 1) := by decide +kernel
theorem d_L_keys_12 : decode b_L_keys 12 = .ok (.iconst 1, 1) := by decide +kernel
theorem d_L_keys_13 : decode b_L_keys 13 = .ok (.ireturn, 1) := by decide +kernel
theorem d_L_keys_14 : decode b_L_keys 14 = .ok (.iconst 0, 1) := by decide +kernel
theorem d_L_keys_15 : decode b_L_keys 15 = .ok (.ireturn, 1) := by decide +kernel
theorem d_L_key_0 : decode b_L_key 0 = .ok (.aload_n 3, 1) := by decide +kernel
theorem d_L_key_1 : decode b_L_key 1 = .ok (.iconst 0, 1) := by decide +kernel
theorem d_L_key_2 : decode b_L_key 2 = .ok (.aload_n 0, 1) := by decide +kernel
theorem d_L_key_3 : decode b_L_key 3 = .ok (.iload_n 1, 1) := by decide +kernel
theorem d_L_key_4 : decode b_L_key 4 = .ok (.iload_n 2, 1) := by decide +kernel
theorem d_L_key_5 : decode b_L_key 5 = .ok (.invokevirtual 33, 3) := by decide +kernel
theorem d_L_key_8 : decode b_L_key 8 = .ok (.lastore, 1) := by decide +kernel
theorem d_L_key_9 : decode b_L_key 9 = .ok (.goto 15, 3) := by decide +kernel
theorem d_L_key_12 : decode b_L_key 12 = .ok (.astore 4, 2) := by decide +kernel
theorem d_L_key_14 : decode b_L_key 14 = .ok (.iconst 1, 1) := by decide +kernel
theorem d_L_key_15 : decode b_L_key 15 = .ok (.ireturn, 1) := by decide +kernel
theorem d_L_key_16 : decode b_L_key 16 = .ok (.astore 4, 2) := by decide +kernel
theorem d_L_key_18 : decode b_L_key 18 = .ok (.iconst 2, 1) := by decide +kernel
theorem d_L_key_19 : decode b_L_key 19 = .ok (.ireturn, 1) := by decide +kernel
theorem d_L_key_20 : decode b_L_key 20 = .ok (.astore 4, 2) := by decide +kernel
theorem d_L_key_22 : decode b_L_key 22 = .ok (.iconst 3, 1) := by decide +kernel
theorem d_L_key_23 : decode b_L_key 23 = .ok (.ireturn, 1) := by decide +kernel
theorem d_L_key_24 : decode b_L_key 24 = .ok (.iconst 0, 1) := by decide +kernel
theorem d_L_key_25 : decode b_L_key 25 = .ok (.ireturn, 1) := by decide +kernel
theorem d_L_sync_0 : decode b_L_sync 0 = .ok (.aload_n 0, 1) := by decide +kernel
theorem d_L_sync_1 : decode b_L_sync 1 = .ok (.invokevirtual 37, 3) := by decide +kernel
theorem d_L_sync_4 : decode b_L_sync 4 = .ok (.goto 6, 3) := by decide +kernel
theorem d_L_sync_7 : decode b_L_sync 7 = .ok (.astore_n 1, 1) := by decide +kernel
theorem d_L_sync_8 : decode b_L_sync 8 = .ok (.iconst 1, 1) := by decide +kernel
theorem d_L_sync_9 : decode b_L_sync 9 = .ok (.ireturn, 1) := by decide +kernel
theorem d_L_sync_10 : decode b_L_sync 10 = .ok (.iconst 0, 1) := by decide +kernel
theorem d_L_sync_11 : decode b_L_sync 11 = .ok (.ireturn, 1) := by decide +kernel
theorem d_L_lose_0 : decode b_L_lose 0 = .ok (.aload_n 0, 1) := by decide +kernel
theorem d_L_lose_1 : decode b_L_lose 1 = .ok (.iload_n 1, 1) := by decide +kernel
theorem d_L_lose_2 : decode b_L_lose 2 = .ok (.invokevirtual 40, 3) := by decide +kernel
theorem d_L_lose_5 : decode b_L_lose 5 = .ok (.goto 6, 3) := by decide +kernel
theorem d_L_lose_8 : decode b_L_lose 8 = .ok (.astore_n 2, 1) := by decide +kernel
theorem d_L_lose_9 : decode b_L_lose 9 = .ok (.iconst 1, 1) := by decide +kernel
theorem d_L_lose_10 : decode b_L_lose 10 = .ok (.ireturn, 1) := by decide +kernel
theorem d_L_lose_11 : decode b_L_lose 11 = .ok (.iconst 0, 1) := by decide +kernel
theorem d_L_lose_12 : decode b_L_lose 12 = .ok (.ireturn, 1) := by decide +kernel
theorem d_L_merge_0 : decode b_L_merge 0 = .ok (.aload_n 2, 1) := by decide +kernel
theorem d_L_merge_1 : decode b_L_merge 1 = .ok (.iconst 0, 1) := by decide +kernel
theorem d_L_merge_2 : decode b_L_merge 2 = .ok (.aload_n 0, 1) := by decide +kernel
theorem d_L_merge_3 : decode b_L_merge 3 = .ok (.iload_n 1, 1) := by decide +kernel
theorem d_L_merge_4 : decode b_L_merge 4 = .ok (.invokevirtual 44, 3) := by decide +kernel
theorem d_L_merge_7 : decode b_L_merge 7 = .ok (.ifCond .eq 7, 3) := by decide +kernel
theorem d_L_merge_10 : decode b_L_merge 10 = .ok (.lconst 1, 1) := by decide +kernel
theorem d_L_merge_11 : decode b_L_merge 11 = .ok (.goto 4, 3) := by decide +kernel
theorem d_L_merge_14 : decode b_L_merge 14 = .ok (.lconst 0, 1) := by decide +kernel
theorem d_L_merge_15 : decode b_L_merge 15 = .ok (.lastore, 1) := by decide +kernel
theorem d_L_merge_16 : decode b_L_merge 16 = .ok (.goto 9, 3) := by decide +kernel
theorem d_L_merge_19 : decode b_L_merge 19 = .ok (.astore_n 3, 1) := by decide +kernel
theorem d_L_merge_20 : decode b_L_merge 20 = .ok (.iconst 1, 1) := by decide +kernel
theorem d_L_merge_21 : decode b_L_merge 21 = .ok (.ireturn, 1) := by decide +kernel
theorem d_L_merge_22 : decode b_L_merge 22 = .ok (.astore_n 3, 1) := by decide +kernel
theorem d_L_merge_23 : decode b_L_merge 23 = .ok (.iconst 2, 1) := by decide +kernel
theorem d_L_merge_24 : decode b_L_merge 24 = .ok (.ireturn, 1) := by decide +kernel
theorem d_L_merge_25 : decode b_L_merge 25 = .ok (.iconst 0, 1) := by decide +kernel
theorem d_L_merge_26 : decode b_L_merge 26 = .ok (.ireturn, 1) := by decide +kernel
theorem d_L_file_0 : decode b_L_file 0 = .ok (.aload_n 3, 1) := by decide +kernel
theorem d_L_file_1 : decode b_L_file 1 = .ok (.iconst 0, 1) := by decide +kernel
theorem d_L_file_2 : decode b_L_file 2 = .ok (.aload_n 0, 1) := by decide +kernel
theorem d_L_file_3 : decode b_L_file 3 = .ok (.iload_n 1, 1) := by decide +kernel
theorem d_L_file_4 : decode b_L_file 4 = .ok (.iload_n 2, 1) := by decide +kernel
theorem d_L_file_5 : decode b_L_file 5 = .ok (.invokevirtual 48, 3) := by decide +kernel
theorem d_L_file_8 : decode b_L_file 8 = .ok (.i2l, 1) := by decide +kernel
theorem d_L_file_9 : decode b_L_file 9 = .ok (.lastore, 1) := by decide +kernel
theorem d_L_file_10 : decode b_L_file 10 = .ok (.goto 7, 3) := by decide +kernel
theorem d_L_file_13 : decode b_L_file 13 = .ok (.astore 4, 2) := by decide +kernel
theorem d_L_file_15 : decode b_L_file 15 = .ok (.iconst 1, 1) := by decide +kernel
theorem d_L_file_16 : decode b_L_file 16 = .ok (.ireturn, 1) := by decide +kernel
theorem d_L_file_17 : decode b_L_file 17 = .ok (.iconst 0, 1) := by decide +kernel
theorem d_L_file_18 : decode b_L_file 18 = .ok (.ireturn, 1) := by decide +kernel
theorem d_L_octet_0 : decode b_L_octet 0 = .ok (.aload 4, 2) := by decide +kernel
theorem d_L_octet_2 : decode b_L_octet 2 = .ok (.iconst 0, 1) := by decide +kernel
theorem d_L_octet_3 : decode b_L_octet 3 = .ok (.aload_n 0, 1) := by decide +kernel
theorem d_L_octet_4 : decode b_L_octet 4 = .ok (.iload_n 1, 1) := by decide +kernel
theorem d_L_octet_5 : decode b_L_octet 5 = .ok (.iload_n 2, 1) := by decide +kernel
theorem d_L_octet_6 : decode b_L_octet 6 = .ok (.iload_n 3, 1) := by decide +kernel
theorem d_L_octet_7 : decode b_L_octet 7 = .ok (.invokevirtual 52, 3) := by decide +kernel
theorem d_L_octet_10 : decode b_L_octet 10 = .ok (.i2l, 1) := by decide +kernel
theorem d_L_octet_11 : decode b_L_octet 11 = .ok (.lastore, 1) := by decide +kernel
theorem d_L_octet_12 : decode b_L_octet 12 = .ok (.goto 7, 3) := by decide +kernel
theorem d_L_octet_15 : decode b_L_octet 15 = .ok (.astore 5, 2) := by decide +kernel
theorem d_L_octet_17 : decode b_L_octet 17 = .ok (.iconst 1, 1) := by decide +kernel
theorem d_L_octet_18 : decode b_L_octet 18 = .ok (.ireturn, 1) := by decide +kernel
theorem d_L_octet_19 : decode b_L_octet 19 = .ok (.iconst 0, 1) := by decide +kernel
theorem d_L_octet_20 : decode b_L_octet 20 = .ok (.ireturn, 1) := by decide +kernel
theorem d_L_spoil_0 : decode b_L_spoil 0 = .ok (.aload_n 0, 1) := by decide +kernel
theorem d_L_spoil_1 : decode b_L_spoil 1 = .ok (.iload_n 1, 1) := by decide +kernel
theorem d_L_spoil_2 : decode b_L_spoil 2 = .ok (.iload_n 2, 1) := by decide +kernel
theorem d_L_spoil_3 : decode b_L_spoil 3 = .ok (.iload_n 3, 1) := by decide +kernel
theorem d_L_spoil_4 : decode b_L_spoil 4 = .ok (.iload 4, 2) := by decide +kernel
theorem d_L_spoil_6 : decode b_L_spoil 6 = .ok (.invokevirtual 56, 3) := by decide +kernel
theorem d_L_spoil_9 : decode b_L_spoil 9 = .ok (.goto 7, 3) := by decide +kernel
theorem d_L_spoil_12 : decode b_L_spoil 12 = .ok (.astore 5, 2) := by decide +kernel
theorem d_L_spoil_14 : decode b_L_spoil 14 = .ok (.iconst 1, 1) := by decide +kernel
theorem d_L_spoil_15 : decode b_L_spoil 15 = .ok (.ireturn, 1) := by decide +kernel
theorem d_L_spoil_16 : decode b_L_spoil 16 = .ok (.iconst 0, 1) := by decide +kernel
theorem d_L_spoil_17 : decode b_L_spoil 17 = .ok (.ireturn, 1) := by decide +kernel
theorem d_L_law_0 : decode b_L_law 0 = .ok (.new 8, 3) := by decide +kernel
theorem d_L_law_3 : decode b_L_law 3 = .ok (.dup, 1) := by decide +kernel
theorem d_L_law_4 : decode b_L_law 4 = .ok (.invokespecial 60, 3) := by decide +kernel
theorem d_L_law_7 : decode b_L_law 7 = .ok (.astore_n 1, 1) := by decide +kernel
theorem d_L_law_8 : decode b_L_law 8 = .ok (.new 61, 3) := by decide +kernel
theorem d_L_law_11 : decode b_L_law 11 = .ok (.dup, 1) := by decide +kernel
theorem d_L_law_12 : decode b_L_law 12 = .ok (.invokespecial 63, 3) := by decide +kernel
theorem d_L_law_15 : decode b_L_law 15 = .ok (.astore_n 2, 1) := by decide +kernel
theorem d_L_law_16 : decode b_L_law 16 = .ok (.iconst 1, 1) := by decide +kernel
theorem d_L_law_17 : decode b_L_law 17 = .ok (.newarray .long, 2) := by decide +kernel
theorem d_L_law_19 : decode b_L_law 19 = .ok (.astore_n 3, 1) := by decide +kernel
theorem d_L_law_20 : decode b_L_law 20 = .ok (.iconst 0, 1) := by decide +kernel
theorem d_L_law_21 : decode b_L_law 21 = .ok (.istore 4, 2) := by decide +kernel
theorem d_L_law_23 : decode b_L_law 23 = .ok (.iload 4, 2) := by decide +kernel
theorem d_L_law_25 : decode b_L_law 25 = .ok (.aload_n 0, 1) := by decide +kernel
theorem d_L_law_26 : decode b_L_law 26 = .ok (.arraylength, 1) := by decide +kernel
theorem d_L_law_27 : decode b_L_law 27 = .ok (.bipush 7, 2) := by decide +kernel
theorem d_L_law_29 : decode b_L_law 29 = .ok (.isub, 1) := by decide +kernel
theorem d_L_law_30 : decode b_L_law 30 = .ok (.if_icmp .gt 968, 3) := by decide +kernel
theorem d_L_law_33 : decode b_L_law 33 = .ok (.aload_n 0, 1) := by decide +kernel
theorem d_L_law_34 : decode b_L_law 34 = .ok (.iload 4, 2) := by decide +kernel
theorem d_L_law_36 : decode b_L_law 36 = .ok (.iaload, 1) := by decide +kernel
theorem d_L_law_37 : decode b_L_law 37 = .ok (.bipush 15, 2) := by decide +kernel
theorem d_L_law_39 : decode b_L_law 39 = .ok (.iand, 1) := by decide +kernel
theorem d_L_law_40 : decode b_L_law 40 = .ok (.tableswitch 952 0 12 #[68, 206, 313, 412, 456, 523, 547, 583, 624, 687, 700, 768, 864], 68) := by decide +kernel
theorem d_L_law_108 : decode b_L_law 108 = .ok (.aload_n 1, 1) := by decide +kernel
theorem d_L_law_109 : decode b_L_law 109 = .ok (.aload_n 0, 1) := by decide +kernel
theorem d_L_law_110 : decode b_L_law 110 = .ok (.iload 4, 2) := by decide +kernel
theorem d_L_law_112 : decode b_L_law 112 = .ok (.iconst 1, 1) := by decide +kernel
theorem d_L_law_113 : decode b_L_law 113 = .ok (.iadd, 1) := by decide +kernel
theorem d_L_law_114 : decode b_L_law 114 = .ok (.iaload, 1) := by decide +kernel
theorem d_L_law_115 : decode b_L_law 115 = .ok (.i2l, 1) := by decide +kernel
theorem d_L_law_116 : decode b_L_law 116 = .ok (.bipush 32, 2) := by decide +kernel
theorem d_L_law_118 : decode b_L_law 118 = .ok (.lshl, 1) := by decide +kernel
theorem d_L_law_119 : decode b_L_law 119 = .ok (.aload_n 0, 1) := by decide +kernel
theorem d_L_law_120 : decode b_L_law 120 = .ok (.iload 4, 2) := by decide +kernel
theorem d_L_law_122 : decode b_L_law 122 = .ok (.iconst 2, 1) := by decide +kernel
theorem d_L_law_123 : decode b_L_law 123 = .ok (.iadd, 1) := by decide +kernel
theorem d_L_law_124 : decode b_L_law 124 = .ok (.iaload, 1) := by decide +kernel
theorem d_L_law_125 : decode b_L_law 125 = .ok (.i2l, 1) := by decide +kernel
theorem d_L_law_126 : decode b_L_law 126 = .ok (.ldc2_w 64, 3) := by decide +kernel
theorem d_L_law_129 : decode b_L_law 129 = .ok (.land, 1) := by decide +kernel
theorem d_L_law_130 : decode b_L_law 130 = .ok (.lor, 1) := by decide +kernel
theorem d_L_law_131 : decode b_L_law 131 = .ok (.aload_n 0, 1) := by decide +kernel
theorem d_L_law_132 : decode b_L_law 132 = .ok (.iload 4, 2) := by decide +kernel
theorem d_L_law_134 : decode b_L_law 134 = .ok (.iconst 3, 1) := by decide +kernel
theorem d_L_law_135 : decode b_L_law 135 = .ok (.iadd, 1) := by decide +kernel
theorem d_L_law_136 : decode b_L_law 136 = .ok (.iaload, 1) := by decide +kernel
theorem d_L_law_137 : decode b_L_law 137 = .ok (.aload_n 0, 1) := by decide +kernel
theorem d_L_law_138 : decode b_L_law 138 = .ok (.iload 4, 2) := by decide +kernel
theorem d_L_law_140 : decode b_L_law 140 = .ok (.iconst 4, 1) := by decide +kernel
theorem d_L_law_141 : decode b_L_law 141 = .ok (.iadd, 1) := by decide +kernel
theorem d_L_law_142 : decode b_L_law 142 = .ok (.iaload, 1) := by decide +kernel
theorem d_L_law_143 : decode b_L_law 143 = .ok (.i2l, 1) := by decide +kernel
theorem d_L_law_144 : decode b_L_law 144 = .ok (.bipush 32, 2) := by decide +kernel
theorem d_L_law_146 : decode b_L_law 146 = .ok (.lshl, 1) := by decide +kernel
theorem d_L_law_147 : decode b_L_law 147 = .ok (.aload_n 0, 1) := by decide +kernel
theorem d_L_law_148 : decode b_L_law 148 = .ok (.iload 4, 2) := by decide +kernel
theorem d_L_law_150 : decode b_L_law 150 = .ok (.iconst 5, 1) := by decide +kernel
theorem d_L_law_151 : decode b_L_law 151 = .ok (.iadd, 1) := by decide +kernel
theorem d_L_law_152 : decode b_L_law 152 = .ok (.iaload, 1) := by decide +kernel
theorem d_L_law_153 : decode b_L_law 153 = .ok (.i2l, 1) := by decide +kernel
theorem d_L_law_154 : decode b_L_law 154 = .ok (.ldc2_w 64, 3) := by decide +kernel
theorem d_L_law_157 : decode b_L_law 157 = .ok (.land, 1) := by decide +kernel
theorem d_L_law_158 : decode b_L_law 158 = .ok (.lor, 1) := by decide +kernel
theorem d_L_law_159 : decode b_L_law 159 = .ok (.aload_n 0, 1) := by decide +kernel
theorem d_L_law_160 : decode b_L_law 160 = .ok (.iload 4, 2) := by decide +kernel
theorem d_L_law_162 : decode b_L_law 162 = .ok (.bipush 6, 2) := by decide +kernel
theorem d_L_law_164 : decode b_L_law 164 = .ok (.iadd, 1) := by decide +kernel
theorem d_L_law_165 : decode b_L_law 165 = .ok (.iaload, 1) := by decide +kernel
theorem d_L_law_166 : decode b_L_law 166 = .ok (.invokestatic 66, 3) := by decide +kernel
theorem d_L_law_169 : decode b_L_law 169 = .ok (.istore 5, 2) := by decide +kernel
theorem d_L_law_171 : decode b_L_law 171 = .ok (.aload_n 2, 1) := by decide +kernel
theorem d_L_law_172 : decode b_L_law 172 = .ok (.aload_n 0, 1) := by decide +kernel
theorem d_L_law_173 : decode b_L_law 173 = .ok (.iload 4, 2) := by decide +kernel
theorem d_L_law_175 : decode b_L_law 175 = .ok (.iconst 1, 1) := by decide +kernel
theorem d_L_law_176 : decode b_L_law 176 = .ok (.iadd, 1) := by decide +kernel
theorem d_L_law_177 : decode b_L_law 177 = .ok (.iaload, 1) := by decide +kernel
theorem d_L_law_178 : decode b_L_law 178 = .ok (.i2l, 1) := by decide +kernel
theorem d_L_law_179 : decode b_L_law 179 = .ok (.bipush 32, 2) := by decide +kernel
theorem d_L_law_181 : decode b_L_law 181 = .ok (.lshl, 1) := by decide +kernel
theorem d_L_law_182 : decode b_L_law 182 = .ok (.aload_n 0, 1) := by decide +kernel
theorem d_L_law_183 : decode b_L_law 183 = .ok (.iload 4, 2) := by decide +kernel
theorem d_L_law_185 : decode b_L_law 185 = .ok (.iconst 2, 1) := by decide +kernel
theorem d_L_law_186 : decode b_L_law 186 = .ok (.iadd, 1) := by decide +kernel
theorem d_L_law_187 : decode b_L_law 187 = .ok (.iaload, 1) := by decide +kernel
theorem d_L_law_188 : decode b_L_law 188 = .ok (.i2l, 1) := by decide +kernel
theorem d_L_law_189 : decode b_L_law 189 = .ok (.ldc2_w 64, 3) := by decide +kernel
theorem d_L_law_192 : decode b_L_law 192 = .ok (.land, 1) := by decide +kernel
theorem d_L_law_193 : decode b_L_law 193 = .ok (.lor, 1) := by decide +kernel
theorem d_L_law_194 : decode b_L_law 194 = .ok (.aload_n 0, 1) := by decide +kernel
theorem d_L_law_195 : decode b_L_law 195 = .ok (.iload 4, 2) := by decide +kernel
theorem d_L_law_197 : decode b_L_law 197 = .ok (.iconst 3, 1) := by decide +kernel
theorem d_L_law_198 : decode b_L_law 198 = .ok (.iadd, 1) := by decide +kernel
theorem d_L_law_199 : decode b_L_law 199 = .ok (.iaload, 1) := by decide +kernel
theorem d_L_law_200 : decode b_L_law 200 = .ok (.aload_n 0, 1) := by decide +kernel
theorem d_L_law_201 : decode b_L_law 201 = .ok (.iload 4, 2) := by decide +kernel
theorem d_L_law_203 : decode b_L_law 203 = .ok (.iconst 4, 1) := by decide +kernel
theorem d_L_law_204 : decode b_L_law 204 = .ok (.iadd, 1) := by decide +kernel
theorem d_L_law_205 : decode b_L_law 205 = .ok (.iaload, 1) := by decide +kernel
theorem d_L_law_206 : decode b_L_law 206 = .ok (.i2l, 1) := by decide +kernel
theorem d_L_law_207 : decode b_L_law 207 = .ok (.bipush 32, 2) := by decide +kernel
theorem d_L_law_209 : decode b_L_law 209 = .ok (.lshl, 1) := by decide +kernel
theorem d_L_law_210 : decode b_L_law 210 = .ok (.aload_n 0, 1) := by decide +kernel
theorem d_L_law_211 : decode b_L_law 211 = .ok (.iload 4, 2) := by decide +kernel
theorem d_L_law_213 : decode b_L_law 213 = .ok (.iconst 5, 1) := by decide +kernel
theorem d_L_law_214 : decode b_L_law 214 = .ok (.iadd, 1) := by decide +kernel
theorem d_L_law_215 : decode b_L_law 215 = .ok (.iaload, 1) := by decide +kernel
theorem d_L_law_216 : decode b_L_law 216 = .ok (.i2l, 1) := by decide +kernel
theorem d_L_law_217 : decode b_L_law 217 = .ok (.ldc2_w 64, 3) := by decide +kernel
theorem d_L_law_220 : decode b_L_law 220 = .ok (.land, 1) := by decide +kernel
theorem d_L_law_221 : decode b_L_law 221 = .ok (.lor, 1) := by decide +kernel
theorem d_L_law_222 : decode b_L_law 222 = .ok (.aload_n 0, 1) := by decide +kernel
theorem d_L_law_223 : decode b_L_law 223 = .ok (.iload 4, 2) := by decide +kernel
theorem d_L_law_225 : decode b_L_law 225 = .ok (.bipush 6, 2) := by decide +kernel
theorem d_L_law_227 : decode b_L_law 227 = .ok (.iadd, 1) := by decide +kernel
theorem d_L_law_228 : decode b_L_law 228 = .ok (.iaload, 1) := by decide +kernel
theorem d_L_law_229 : decode b_L_law 229 = .ok (.invokevirtual 71, 3) := by decide +kernel
theorem d_L_law_232 : decode b_L_law 232 = .ok (.aload_n 2, 1) := by decide +kernel
theorem d_L_law_233 : decode b_L_law 233 = .ok (.invokevirtual 72, 3) := by decide +kernel
theorem d_L_law_236 : decode b_L_law 236 = .ok (.iload 5, 2) := by decide +kernel
theorem d_L_law_238 : decode b_L_law 238 = .ok (.if_icmp .eq 5, 3) := by decide +kernel
theorem d_L_law_241 : decode b_L_law 241 = .ok (.iconst 0, 1) := by decide +kernel
theorem d_L_law_242 : decode b_L_law 242 = .ok (.ireturn, 1) := by decide +kernel
theorem d_L_law_243 : decode b_L_law 243 = .ok (.goto 749, 3) := by decide +kernel
theorem d_L_law_246 : decode b_L_law 246 = .ok (.aload_n 1, 1) := by decide +kernel
theorem d_L_law_247 : decode b_L_law 247 = .ok (.aload_n 0, 1) := by decide +kernel
theorem d_L_law_248 : decode b_L_law 248 = .ok (.iload 4, 2) := by decide +kernel
theorem d_L_law_250 : decode b_L_law 250 = .ok (.iconst 1, 1) := by decide +kernel
theorem d_L_law_251 : decode b_L_law 251 = .ok (.iadd, 1) := by decide +kernel
theorem d_L_law_252 : decode b_L_law 252 = .ok (.iaload, 1) := by decide +kernel
theorem d_L_law_253 : decode b_L_law 253 = .ok (.i2l, 1) := by decide +kernel
theorem d_L_law_254 : decode b_L_law 254 = .ok (.bipush 32, 2) := by decide +kernel
theorem d_L_law_256 : decode b_L_law 256 = .ok (.lshl, 1) := by decide +kernel
theorem d_L_law_257 : decode b_L_law 257 = .ok (.aload_n 0, 1) := by decide +kernel
theorem d_L_law_258 : decode b_L_law 258 = .ok (.iload 4, 2) := by decide +kernel
theorem d_L_law_260 : decode b_L_law 260 = .ok (.iconst 2, 1) := by decide +kernel
theorem d_L_law_261 : decode b_L_law 261 = .ok (.iadd, 1) := by decide +kernel
theorem d_L_law_262 : decode b_L_law 262 = .ok (.iaload, 1) := by decide +kernel
theorem d_L_law_263 : decode b_L_law 263 = .ok (.i2l, 1) := by decide +kernel
theorem d_L_law_264 : decode b_L_law 264 = .ok (.ldc2_w 64, 3) := by decide +kernel
theorem d_L_law_267 : decode b_L_law 267 = .ok (.land, 1) := by decide +kernel
theorem d_L_law_268 : decode b_L_law 268 = .ok (.lor, 1) := by decide +kernel
theorem d_L_law_269 : decode b_L_law 269 = .ok (.aload_n 0, 1) := by decide +kernel
theorem d_L_law_270 : decode b_L_law 270 = .ok (.iload 4, 2) := by decide +kernel
theorem d_L_law_272 : decode b_L_law 272 = .ok (.iconst 3, 1) := by decide +kernel
theorem d_L_law_273 : decode b_L_law 273 = .ok (.iadd, 1) := by decide +kernel
theorem d_L_law_274 : decode b_L_law 274 = .ok (.iaload, 1) := by decide +kernel
theorem d_L_law_275 : decode b_L_law 275 = .ok (.aload_n 3, 1) := by decide +kernel
theorem d_L_law_276 : decode b_L_law 276 = .ok (.invokestatic 75, 3) := by decide +kernel
theorem d_L_law_279 : decode b_L_law 279 = .ok (.istore 5, 2) := by decide +kernel
theorem d_L_law_281 : decode b_L_law 281 = .ok (.aload_n 2, 1) := by decide +kernel
theorem d_L_law_282 : decode b_L_law 282 = .ok (.aload_n 0, 1) := by decide +kernel
theorem d_L_law_283 : decode b_L_law 283 = .ok (.iload 4, 2) := by decide +kernel
theorem d_L_law_285 : decode b_L_law 285 = .ok (.iconst 1, 1) := by decide +kernel
theorem d_L_law_286 : decode b_L_law 286 = .ok (.iadd, 1) := by decide +kernel
theorem d_L_law_287 : decode b_L_law 287 = .ok (.iaload, 1) := by decide +kernel
theorem d_L_law_288 : decode b_L_law 288 = .ok (.i2l, 1) := by decide +kernel
theorem d_L_law_289 : decode b_L_law 289 = .ok (.bipush 32, 2) := by decide +kernel
theorem d_L_law_291 : decode b_L_law 291 = .ok (.lshl, 1) := by decide +kernel
theorem d_L_law_292 : decode b_L_law 292 = .ok (.aload_n 0, 1) := by decide +kernel
theorem d_L_law_293 : decode b_L_law 293 = .ok (.iload 4, 2) := by decide +kernel
theorem d_L_law_295 : decode b_L_law 295 = .ok (.iconst 2, 1) := by decide +kernel
theorem d_L_law_296 : decode b_L_law 296 = .ok (.iadd, 1) := by decide +kernel
theorem d_L_law_297 : decode b_L_law 297 = .ok (.iaload, 1) := by decide +kernel
theorem d_L_law_298 : decode b_L_law 298 = .ok (.i2l, 1) := by decide +kernel
theorem d_L_law_299 : decode b_L_law 299 = .ok (.ldc2_w 64, 3) := by decide +kernel
theorem d_L_law_302 : decode b_L_law 302 = .ok (.land, 1) := by decide +kernel
theorem d_L_law_303 : decode b_L_law 303 = .ok (.lor, 1) := by decide +kernel
theorem d_L_law_304 : decode b_L_law 304 = .ok (.aload_n 0, 1) := by decide +kernel
theorem d_L_law_305 : decode b_L_law 305 = .ok (.iload 4, 2) := by decide +kernel
theorem d_L_law_307 : decode b_L_law 307 = .ok (.iconst 3, 1) := by decide +kernel
theorem d_L_law_308 : decode b_L_law 308 = .ok (.iadd, 1) := by decide +kernel
theorem d_L_law_309 : decode b_L_law 309 = .ok (.iaload, 1) := by decide +kernel
theorem d_L_law_310 : decode b_L_law 310 = .ok (.invokevirtual 78, 3) := by decide +kernel
theorem d_L_law_313 : decode b_L_law 313 = .ok (.istore 6, 2) := by decide +kernel
theorem d_L_law_315 : decode b_L_law 315 = .ok (.aload_n 2, 1) := by decide +kernel
theorem d_L_law_316 : decode b_L_law 316 = .ok (.invokevirtual 72, 3) := by decide +kernel
theorem d_L_law_319 : decode b_L_law 319 = .ok (.iload 5, 2) := by decide +kernel
theorem d_L_law_321 : decode b_L_law 321 = .ok (.if_icmp .eq 5, 3) := by decide +kernel
theorem d_L_law_324 : decode b_L_law 324 = .ok (.iconst 0, 1) := by decide +kernel
theorem d_L_law_325 : decode b_L_law 325 = .ok (.ireturn, 1) := by decide +kernel
theorem d_L_law_326 : decode b_L_law 326 = .ok (.iload 5, 2) := by decide +kernel
theorem d_L_law_328 : decode b_L_law 328 = .ok (.ifCond .ne 22, 3) := by decide +kernel
theorem d_L_law_331 : decode b_L_law 331 = .ok (.aload_n 3, 1) := by decide +kernel
theorem d_L_law_332 : decode b_L_law 332 = .ok (.iconst 0, 1) := by decide +kernel
theorem d_L_law_333 : decode b_L_law 333 = .ok (.laload, 1) := by decide +kernel
theorem d_L_law_334 : decode b_L_law 334 = .ok (.iload 6, 2) := by decide +kernel
theorem d_L_law_336 : decode b_L_law 336 = .ok (.ifCond .eq 7, 3) := by decide +kernel
theorem d_L_law_339 : decode b_L_law 339 = .ok (.lconst 1, 1) := by decide +kernel
theorem d_L_law_340 : decode b_L_law 340 = .ok (.goto 4, 3) := by decide +kernel
theorem d_L_law_343 : decode b_L_law 343 = .ok (.lconst 0, 1) := by decide +kernel
theorem d_L_law_344 : decode b_L_law 344 = .ok (.lcmp, 1) := by decide +kernel
theorem d_L_law_345 : decode b_L_law 345 = .ok (.ifCond .eq 5, 3) := by decide +kernel
theorem d_L_law_348 : decode b_L_law 348 = .ok (.iconst 0, 1) := by decide +kernel
theorem d_L_law_349 : decode b_L_law 349 = .ok (.ireturn, 1) := by decide +kernel
theorem d_L_law_350 : decode b_L_law 350 = .ok (.goto 642, 3) := by decide +kernel
theorem d_L_law_353 : decode b_L_law 353 = .ok (.aload_n 1, 1) := by decide +kernel
theorem d_L_law_354 : decode b_L_law 354 = .ok (.aload_n 0, 1) := by decide +kernel
theorem d_L_law_355 : decode b_L_law 355 = .ok (.iload 4, 2) := by decide +kernel
theorem d_L_law_357 : decode b_L_law 357 = .ok (.iconst 1, 1) := by decide +kernel
theorem d_L_law_358 : decode b_L_law 358 = .ok (.iadd, 1) := by decide +kernel
theorem d_L_law_359 : decode b_L_law 359 = .ok (.iaload, 1) := by decide +kernel
theorem d_L_law_360 : decode b_L_law 360 = .ok (.i2l, 1) := by decide +kernel
theorem d_L_law_361 : decode b_L_law 361 = .ok (.bipush 32, 2) := by decide +kernel
theorem d_L_law_363 : decode b_L_law 363 = .ok (.lshl, 1) := by decide +kernel
theorem d_L_law_364 : decode b_L_law 364 = .ok (.aload_n 0, 1) := by decide +kernel
theorem d_L_law_365 : decode b_L_law 365 = .ok (.iload 4, 2) := by decide +kernel
theorem d_L_law_367 : decode b_L_law 367 = .ok (.iconst 2, 1) := by decide +kernel
theorem d_L_law_368 : decode b_L_law 368 = .ok (.iadd, 1) := by decide +kernel
theorem d_L_law_369 : decode b_L_law 369 = .ok (.iaload, 1) := by decide +kernel
theorem d_L_law_370 : decode b_L_law 370 = .ok (.i2l, 1) := by decide +kernel
theorem d_L_law_371 : decode b_L_law 371 = .ok (.ldc2_w 64, 3) := by decide +kernel
theorem d_L_law_374 : decode b_L_law 374 = .ok (.land, 1) := by decide +kernel
theorem d_L_law_375 : decode b_L_law 375 = .ok (.lor, 1) := by decide +kernel
theorem d_L_law_376 : decode b_L_law 376 = .ok (.aload_n 0, 1) := by decide +kernel
theorem d_L_law_377 : decode b_L_law 377 = .ok (.iload 4, 2) := by decide +kernel
theorem d_L_law_379 : decode b_L_law 379 = .ok (.iconst 3, 1) := by decide +kernel
theorem d_L_law_380 : decode b_L_law 380 = .ok (.iadd, 1) := by decide +kernel
theorem d_L_law_381 : decode b_L_law 381 = .ok (.iaload, 1) := by decide +kernel
theorem d_L_law_382 : decode b_L_law 382 = .ok (.aload_n 3, 1) := by decide +kernel
theorem d_L_law_383 : decode b_L_law 383 = .ok (.invokestatic 79, 3) := by decide +kernel
theorem d_L_law_386 : decode b_L_law 386 = .ok (.istore 5, 2) := by decide +kernel
theorem d_L_law_388 : decode b_L_law 388 = .ok (.aload_n 2, 1) := by decide +kernel
theorem d_L_law_389 : decode b_L_law 389 = .ok (.aload_n 0, 1) := by decide +kernel
theorem d_L_law_390 : decode b_L_law 390 = .ok (.iload 4, 2) := by decide +kernel
theorem d_L_law_392 : decode b_L_law 392 = .ok (.iconst 1, 1) := by decide +kernel
theorem d_L_law_393 : decode b_L_law 393 = .ok (.iadd, 1) := by decide +kernel
theorem d_L_law_394 : decode b_L_law 394 = .ok (.iaload, 1) := by decide +kernel
theorem d_L_law_395 : decode b_L_law 395 = .ok (.i2l, 1) := by decide +kernel
theorem d_L_law_396 : decode b_L_law 396 = .ok (.bipush 32, 2) := by decide +kernel
theorem d_L_law_398 : decode b_L_law 398 = .ok (.lshl, 1) := by decide +kernel
theorem d_L_law_399 : decode b_L_law 399 = .ok (.aload_n 0, 1) := by decide +kernel
theorem d_L_law_400 : decode b_L_law 400 = .ok (.iload 4, 2) := by decide +kernel
theorem d_L_law_402 : decode b_L_law 402 = .ok (.iconst 2, 1) := by decide +kernel
theorem d_L_law_403 : decode b_L_law 403 = .ok (.iadd, 1) := by decide +kernel
theorem d_L_law_404 : decode b_L_law 404 = .ok (.iaload, 1) := by decide +kernel
theorem d_L_law_405 : decode b_L_law 405 = .ok (.i2l, 1) := by decide +kernel
theorem d_L_law_406 : decode b_L_law 406 = .ok (.ldc2_w 64, 3) := by decide +kernel
theorem d_L_law_409 : decode b_L_law 409 = .ok (.land, 1) := by decide +kernel
theorem d_L_law_410 : decode b_L_law 410 = .ok (.lor, 1) := by decide +kernel
theorem d_L_law_411 : decode b_L_law 411 = .ok (.aload_n 0, 1) := by decide +kernel
theorem d_L_law_412 : decode b_L_law 412 = .ok (.iload 4, 2) := by decide +kernel
theorem d_L_law_414 : decode b_L_law 414 = .ok (.iconst 3, 1) := by decide +kernel
theorem d_L_law_415 : decode b_L_law 415 = .ok (.iadd, 1) := by decide +kernel
theorem d_L_law_416 : decode b_L_law 416 = .ok (.iaload, 1) := by decide +kernel
theorem d_L_law_417 : decode b_L_law 417 = .ok (.invokevirtual 81, 3) := by decide +kernel
theorem d_L_law_420 : decode b_L_law 420 = .ok (.lstore 6, 2) := by decide +kernel
theorem d_L_law_422 : decode b_L_law 422 = .ok (.aload_n 2, 1) := by decide +kernel
theorem d_L_law_423 : decode b_L_law 423 = .ok (.invokevirtual 72, 3) := by decide +kernel
theorem d_L_law_426 : decode b_L_law 426 = .ok (.iload 5, 2) := by decide +kernel
theorem d_L_law_428 : decode b_L_law 428 = .ok (.if_icmp .eq 5, 3) := by decide +kernel
theorem d_L_law_431 : decode b_L_law 431 = .ok (.iconst 0, 1) := by decide +kernel
theorem d_L_law_432 : decode b_L_law 432 = .ok (.ireturn, 1) := by decide +kernel
theorem d_L_law_433 : decode b_L_law 433 = .ok (.iload 5, 2) := by decide +kernel
theorem d_L_law_435 : decode b_L_law 435 = .ok (.ifCond .ne 14, 3) := by decide +kernel
theorem d_L_law_438 : decode b_L_law 438 = .ok (.aload_n 3, 1) := by decide +kernel
theorem d_L_law_439 : decode b_L_law 439 = .ok (.iconst 0, 1) := by decide +kernel
theorem d_L_law_440 : decode b_L_law 440 = .ok (.laload, 1) := by decide +kernel
theorem d_L_law_441 : decode b_L_law 441 = .ok (.lload 6, 2) := by decide +kernel
theorem d_L_law_443 : decode b_L_law 443 = .ok (.lcmp, 1) := by decide +kernel
theorem d_L_law_444 : decode b_L_law 444 = .ok (.ifCond .eq 5, 3) := by decide +kernel
theorem d_L_law_447 : decode b_L_law 447 = .ok (.iconst 0, 1) := by decide +kernel
theorem d_L_law_448 : decode b_L_law 448 = .ok (.ireturn, 1) := by decide +kernel
theorem d_L_law_449 : decode b_L_law 449 = .ok (.goto 543, 3) := by decide +kernel
theorem d_L_law_452 : decode b_L_law 452 = .ok (.aload_n 1, 1) := by decide +kernel
theorem d_L_law_453 : decode b_L_law 453 = .ok (.aload_n 3, 1) := by decide +kernel
theorem d_L_law_454 : decode b_L_law 454 = .ok (.invokestatic 82, 3) := by decide +kernel
theorem d_L_law_457 : decode b_L_law 457 = .ok (.istore 5, 2) := by decide +kernel
theorem d_L_law_459 : decode b_L_law 459 = .ok (.aload_n 2, 1) := by decide +kernel
theorem d_L_law_460 : decode b_L_law 460 = .ok (.invokevirtual 85, 3) := by decide +kernel
theorem d_L_law_463 : decode b_L_law 463 = .ok (.istore 6, 2) := by decide +kernel
theorem d_L_law_465 : decode b_L_law 465 = .ok (.aload_n 2, 1) := by decide +kernel
theorem d_L_law_466 : decode b_L_law 466 = .ok (.invokevirtual 72, 3) := by decide +kernel
theorem d_L_law_469 : decode b_L_law 469 = .ok (.iload 5, 2) := by decide +kernel
theorem d_L_law_471 : decode b_L_law 471 = .ok (.if_icmp .eq 5, 3) := by decide +kernel
theorem d_L_law_474 : decode b_L_law 474 = .ok (.iconst 0, 1) := by decide +kernel
theorem d_L_law_475 : decode b_L_law 475 = .ok (.ireturn, 1) := by decide +kernel
theorem d_L_law_476 : decode b_L_law 476 = .ok (.iload 5, 2) := by decide +kernel
theorem d_L_law_478 : decode b_L_law 478 = .ok (.ifCond .ne 15, 3) := by decide +kernel
theorem d_L_law_481 : decode b_L_law 481 = .ok (.aload_n 3, 1) := by decide +kernel
theorem d_L_law_482 : decode b_L_law 482 = .ok (.iconst 0, 1) := by decide +kernel
theorem d_L_law_483 : decode b_L_law 483 = .ok (.laload, 1) := by decide +kernel
theorem d_L_law_484 : decode b_L_law 484 = .ok (.iload 6, 2) := by decide +kernel
theorem d_L_law_486 : decode b_L_law 486 = .ok (.i2l, 1) := by decide +kernel
theorem d_L_law_487 : decode b_L_law 487 = .ok (.lcmp, 1) := by decide +kernel
theorem d_L_law_488 : decode b_L_law 488 = .ok (.ifCond .eq 5, 3) := by decide +kernel
theorem d_L_law_491 : decode b_L_law 491 = .ok (.iconst 0, 1) := by decide +kernel
theorem d_L_law_492 : decode b_L_law 492 = .ok (.ireturn, 1) := by decide +kernel
theorem d_L_law_493 : decode b_L_law 493 = .ok (.goto 499, 3) := by decide +kernel
theorem d_L_law_496 : decode b_L_law 496 = .ok (.aload_n 1, 1) := by decide +kernel
theorem d_L_law_497 : decode b_L_law 497 = .ok (.aload_n 0, 1) := by decide +kernel
theorem d_L_law_498 : decode b_L_law 498 = .ok (.iload 4, 2) := by decide +kernel
theorem d_L_law_500 : decode b_L_law 500 = .ok (.iconst 1, 1) := by decide +kernel
theorem d_L_law_501 : decode b_L_law 501 = .ok (.iadd, 1) := by decide +kernel
theorem d_L_law_502 : decode b_L_law 502 = .ok (.iaload, 1) := by decide +kernel
theorem d_L_law_503 : decode b_L_law 503 = .ok (.aload_n 0, 1) := by decide +kernel
theorem d_L_law_504 : decode b_L_law 504 = .ok (.iload 4, 2) := by decide +kernel
theorem d_L_law_506 : decode b_L_law 506 = .ok (.iconst 2, 1) := by decide +kernel
theorem d_L_law_507 : decode b_L_law 507 = .ok (.iadd, 1) := by decide +kernel
theorem d_L_law_508 : decode b_L_law 508 = .ok (.iaload, 1) := by decide +kernel
theorem d_L_law_509 : decode b_L_law 509 = .ok (.aload_n 3, 1) := by decide +kernel
theorem d_L_law_510 : decode b_L_law 510 = .ok (.invokestatic 86, 3) := by decide +kernel
theorem d_L_law_513 : decode b_L_law 513 = .ok (.istore 5, 2) := by decide +kernel
theorem d_L_law_515 : decode b_L_law 515 = .ok (.aload_n 2, 1) := by decide +kernel
theorem d_L_law_516 : decode b_L_law 516 = .ok (.aload_n 0, 1) := by decide +kernel
theorem d_L_law_517 : decode b_L_law 517 = .ok (.iload 4, 2) := by decide +kernel
theorem d_L_law_519 : decode b_L_law 519 = .ok (.iconst 1, 1) := by decide +kernel
theorem d_L_law_520 : decode b_L_law 520 = .ok (.iadd, 1) := by decide +kernel
theorem d_L_law_521 : decode b_L_law 521 = .ok (.iaload, 1) := by decide +kernel
theorem d_L_law_522 : decode b_L_law 522 = .ok (.aload_n 0, 1) := by decide +kernel
theorem d_L_law_523 : decode b_L_law 523 = .ok (.iload 4, 2) := by decide +kernel
theorem d_L_law_525 : decode b_L_law 525 = .ok (.iconst 2, 1) := by decide +kernel
theorem d_L_law_526 : decode b_L_law 526 = .ok (.iadd, 1) := by decide +kernel
theorem d_L_law_527 : decode b_L_law 527 = .ok (.iaload, 1) := by decide +kernel
theorem d_L_law_528 : decode b_L_law 528 = .ok (.invokevirtual 89, 3) := by decide +kernel
theorem d_L_law_531 : decode b_L_law 531 = .ok (.lstore 6, 2) := by decide +kernel
theorem d_L_law_533 : decode b_L_law 533 = .ok (.aload_n 2, 1) := by decide +kernel
theorem d_L_law_534 : decode b_L_law 534 = .ok (.invokevirtual 72, 3) := by decide +kernel
theorem d_L_law_537 : decode b_L_law 537 = .ok (.iload 5, 2) := by decide +kernel
theorem d_L_law_539 : decode b_L_law 539 = .ok (.if_icmp .eq 5, 3) := by decide +kernel
theorem d_L_law_542 : decode b_L_law 542 = .ok (.iconst 0, 1) := by decide +kernel
theorem d_L_law_543 : decode b_L_law 543 = .ok (.ireturn, 1) := by decide +kernel
theorem d_L_law_544 : decode b_L_law 544 = .ok (.iload 5, 2) := by decide +kernel
theorem d_L_law_546 : decode b_L_law 546 = .ok (.ifCond .ne 14, 3) := by decide +kernel
theorem d_L_law_549 : decode b_L_law 549 = .ok (.aload_n 3, 1) := by decide +kernel
theorem d_L_law_550 : decode b_L_law 550 = .ok (.iconst 0, 1) := by decide +kernel
theorem d_L_law_551 : decode b_L_law 551 = .ok (.laload, 1) := by decide +kernel
theorem d_L_law_552 : decode b_L_law 552 = .ok (.lload 6, 2) := by decide +kernel
theorem d_L_law_554 : decode b_L_law 554 = .ok (.lcmp, 1) := by decide +kernel
theorem d_L_law_555 : decode b_L_law 555 = .ok (.ifCond .eq 5, 3) := by decide +kernel
theorem d_L_law_558 : decode b_L_law 558 = .ok (.iconst 0, 1) := by decide +kernel
theorem d_L_law_559 : decode b_L_law 559 = .ok (.ireturn, 1) := by decide +kernel
theorem d_L_law_560 : decode b_L_law 560 = .ok (.goto 432, 3) := by decide +kernel
theorem d_L_law_563 : decode b_L_law 563 = .ok (.aload_n 1, 1) := by decide +kernel
theorem d_L_law_564 : decode b_L_law 564 = .ok (.invokestatic 90, 3) := by decide +kernel
theorem d_L_law_567 : decode b_L_law 567 = .ok (.istore 5, 2) := by decide +kernel
theorem d_L_law_569 : decode b_L_law 569 = .ok (.aload_n 2, 1) := by decide +kernel
theorem d_L_law_570 : decode b_L_law 570 = .ok (.invokevirtual 93, 3) := by decide +kernel
theorem d_L_law_573 : decode b_L_law 573 = .ok (.aload_n 2, 1) := by decide +kernel
theorem d_L_law_574 : decode b_L_law 574 = .ok (.invokevirtual 72, 3) := by decide +kernel
theorem d_L_law_577 : decode b_L_law 577 = .ok (.iload 5, 2) := by decide +kernel
theorem d_L_law_579 : decode b_L_law 579 = .ok (.if_icmp .eq 5, 3) := by decide +kernel
theorem d_L_law_582 : decode b_L_law 582 = .ok (.iconst 0, 1) := by decide +kernel
theorem d_L_law_583 : decode b_L_law 583 = .ok (.ireturn, 1) := by decide +kernel
theorem d_L_law_584 : decode b_L_law 584 = .ok (.goto 408, 3) := by decide +kernel
theorem d_L_law_587 : decode b_L_law 587 = .ok (.aload_n 1, 1) := by decide +kernel
theorem d_L_law_588 : decode b_L_law 588 = .ok (.aload_n 0, 1) := by decide +kernel
theorem d_L_law_589 : decode b_L_law 589 = .ok (.iload 4, 2) := by decide +kernel
theorem d_L_law_591 : decode b_L_law 591 = .ok (.iconst 1, 1) := by decide +kernel
theorem d_L_law_592 : decode b_L_law 592 = .ok (.iadd, 1) := by decide +kernel
theorem d_L_law_593 : decode b_L_law 593 = .ok (.iaload, 1) := by decide +kernel
theorem d_L_law_594 : decode b_L_law 594 = .ok (.invokestatic 94, 3) := by decide +kernel
theorem d_L_law_597 : decode b_L_law 597 = .ok (.istore 5, 2) := by decide +kernel
theorem d_L_law_599 : decode b_L_law 599 = .ok (.aload_n 2, 1) := by decide +kernel
theorem d_L_law_600 : decode b_L_law 600 = .ok (.aload_n 0, 1) := by decide +kernel
theorem d_L_law_601 : decode b_L_law 601 = .ok (.iload 4, 2) := by decide +kernel
theorem d_L_law_603 : decode b_L_law 603 = .ok (.iconst 1, 1) := by decide +kernel
theorem d_L_law_604 : decode b_L_law 604 = .ok (.iadd, 1) := by decide +kernel
theorem d_L_law_605 : decode b_L_law 605 = .ok (.iaload, 1) := by decide +kernel
theorem d_L_law_606 : decode b_L_law 606 = .ok (.invokevirtual 97, 3) := by decide +kernel
theorem d_L_law_609 : decode b_L_law 609 = .ok (.aload_n 2, 1) := by decide +kernel
theorem d_L_law_610 : decode b_L_law 610 = .ok (.invokevirtual 72, 3) := by decide +kernel
theorem d_L_law_613 : decode b_L_law 613 = .ok (.iload 5, 2) := by decide +kernel
theorem d_L_law_615 : decode b_L_law 615 = .ok (.if_icmp .eq 5, 3) := by decide +kernel
theorem d_L_law_618 : decode b_L_law 618 = .ok (.iconst 0, 1) := by decide +kernel
theorem d_L_law_619 : decode b_L_law 619 = .ok (.ireturn, 1) := by decide +kernel
theorem d_L_law_620 : decode b_L_law 620 = .ok (.goto 372, 3) := by decide +kernel
theorem d_L_law_623 : decode b_L_law 623 = .ok (.aload_n 1, 1) := by decide +kernel
theorem d_L_law_624 : decode b_L_law 624 = .ok (.aload_n 0, 1) := by decide +kernel
theorem d_L_law_625 : decode b_L_law 625 = .ok (.iload 4, 2) := by decide +kernel
theorem d_L_law_627 : decode b_L_law 627 = .ok (.iconst 1, 1) := by decide +kernel
theorem d_L_law_628 : decode b_L_law 628 = .ok (.iadd, 1) := by decide +kernel
theorem d_L_law_629 : decode b_L_law 629 = .ok (.iaload, 1) := by decide +kernel
theorem d_L_law_630 : decode b_L_law 630 = .ok (.ifCond .eq 7, 3) := by decide +kernel
theorem d_L_law_633 : decode b_L_law 633 = .ok (.iconst 1, 1) := by decide +kernel
theorem d_L_law_634 : decode b_L_law 634 = .ok (.goto 4, 3) := by decide +kernel
theorem d_L_law_637 : decode b_L_law 637 = .ok (.iconst 0, 1) := by decide +kernel
theorem d_L_law_638 : decode b_L_law 638 = .ok (.invokevirtual 98, 3) := by decide +kernel
theorem d_L_law_641 : decode b_L_law 641 = .ok (.aload_n 2, 1) := by decide +kernel
theorem d_L_law_642 : decode b_L_law 642 = .ok (.aload_n 0, 1) := by decide +kernel
theorem d_L_law_643 : decode b_L_law 643 = .ok (.iload 4, 2) := by decide +kernel
theorem d_L_law_645 : decode b_L_law 645 = .ok (.iconst 1, 1) := by decide +kernel
theorem d_L_law_646 : decode b_L_law 646 = .ok (.iadd, 1) := by decide +kernel
theorem d_L_law_647 : decode b_L_law 647 = .ok (.iaload, 1) := by decide +kernel
theorem d_L_law_648 : decode b_L_law 648 = .ok (.ifCond .eq 7, 3) := by decide +kernel
theorem d_L_law_651 : decode b_L_law 651 = .ok (.iconst 1, 1) := by decide +kernel
theorem d_L_law_652 : decode b_L_law 652 = .ok (.goto 4, 3) := by decide +kernel
theorem d_L_law_655 : decode b_L_law 655 = .ok (.iconst 0, 1) := by decide +kernel
theorem d_L_law_656 : decode b_L_law 656 = .ok (.invokevirtual 102, 3) := by decide +kernel
theorem d_L_law_659 : decode b_L_law 659 = .ok (.if_icmp .eq 333, 3) := by decide +kernel
theorem d_L_law_662 : decode b_L_law 662 = .ok (.iconst 0, 1) := by decide +kernel
theorem d_L_law_663 : decode b_L_law 663 = .ok (.ireturn, 1) := by decide +kernel
theorem d_L_law_664 : decode b_L_law 664 = .ok (.aload_n 1, 1) := by decide +kernel
theorem d_L_law_665 : decode b_L_law 665 = .ok (.aload_n 0, 1) := by decide +kernel
theorem d_L_law_666 : decode b_L_law 666 = .ok (.iload 4, 2) := by decide +kernel
theorem d_L_law_668 : decode b_L_law 668 = .ok (.iconst 1, 1) := by decide +kernel
theorem d_L_law_669 : decode b_L_law 669 = .ok (.iadd, 1) := by decide +kernel
theorem d_L_law_670 : decode b_L_law 670 = .ok (.iaload, 1) := by decide +kernel
theorem d_L_law_671 : decode b_L_law 671 = .ok (.aload_n 3, 1) := by decide +kernel
theorem d_L_law_672 : decode b_L_law 672 = .ok (.invokestatic 103, 3) := by decide +kernel
theorem d_L_law_675 : decode b_L_law 675 = .ok (.istore 5, 2) := by decide +kernel
theorem d_L_law_677 : decode b_L_law 677 = .ok (.aload_n 2, 1) := by decide +kernel
theorem d_L_law_678 : decode b_L_law 678 = .ok (.aload_n 0, 1) := by decide +kernel
theorem d_L_law_679 : decode b_L_law 679 = .ok (.iload 4, 2) := by decide +kernel
theorem d_L_law_681 : decode b_L_law 681 = .ok (.iconst 1, 1) := by decide +kernel
theorem d_L_law_682 : decode b_L_law 682 = .ok (.iadd, 1) := by decide +kernel
theorem d_L_law_683 : decode b_L_law 683 = .ok (.iaload, 1) := by decide +kernel
theorem d_L_law_684 : decode b_L_law 684 = .ok (.invokevirtual 106, 3) := by decide +kernel
theorem d_L_law_687 : decode b_L_law 687 = .ok (.istore 6, 2) := by decide +kernel
theorem d_L_law_689 : decode b_L_law 689 = .ok (.aload_n 2, 1) := by decide +kernel
theorem d_L_law_690 : decode b_L_law 690 = .ok (.invokevirtual 72, 3) := by decide +kernel
theorem d_L_law_693 : decode b_L_law 693 = .ok (.iload 5, 2) := by decide +kernel
theorem d_L_law_695 : decode b_L_law 695 = .ok (.if_icmp .eq 5, 3) := by decide +kernel
theorem d_L_law_698 : decode b_L_law 698 = .ok (.iconst 0, 1) := by decide +kernel
theorem d_L_law_699 : decode b_L_law 699 = .ok (.ireturn, 1) := by decide +kernel
theorem d_L_law_700 : decode b_L_law 700 = .ok (.iload 5, 2) := by decide +kernel
theorem d_L_law_702 : decode b_L_law 702 = .ok (.ifCond .ne 22, 3) := by decide +kernel
theorem d_L_law_705 : decode b_L_law 705 = .ok (.aload_n 3, 1) := by decide +kernel
theorem d_L_law_706 : decode b_L_law 706 = .ok (.iconst 0, 1) := by decide +kernel
theorem d_L_law_707 : decode b_L_law 707 = .ok (.laload, 1) := by decide +kernel
theorem d_L_law_708 : decode b_L_law 708 = .ok (.iload 6, 2) := by decide +kernel
theorem d_L_law_710 : decode b_L_law 710 = .ok (.ifCond .eq 7, 3) := by decide +kernel
theorem d_L_law_713 : decode b_L_law 713 = .ok (.lconst 1, 1) := by decide +kernel
theorem d_L_law_714 : decode b_L_law 714 = .ok (.goto 4, 3) := by decide +kernel
theorem d_L_law_717 : decode b_L_law 717 = .ok (.lconst 0, 1) := by decide +kernel
theorem d_L_law_718 : decode b_L_law 718 = .ok (.lcmp, 1) := by decide +kernel
theorem d_L_law_719 : decode b_L_law 719 = .ok (.ifCond .eq 5, 3) := by decide +kernel
theorem d_L_law_722 : decode b_L_law 722 = .ok (.iconst 0, 1) := by decide +kernel
theorem d_L_law_723 : decode b_L_law 723 = .ok (.ireturn, 1) := by decide +kernel
theorem d_L_law_724 : decode b_L_law 724 = .ok (.goto 268, 3) := by decide +kernel
theorem d_L_law_727 : decode b_L_law 727 = .ok (.aload_n 1, 1) := by decide +kernel
theorem d_L_law_728 : decode b_L_law 728 = .ok (.invokevirtual 107, 3) := by decide +kernel
theorem d_L_law_731 : decode b_L_law 731 = .ok (.aload_n 2, 1) := by decide +kernel
theorem d_L_law_732 : decode b_L_law 732 = .ok (.invokevirtual 110, 3) := by decide +kernel
theorem d_L_law_735 : decode b_L_law 735 = .ok (.if_icmp .eq 257, 3) := by decide +kernel
theorem d_L_law_738 : decode b_L_law 738 = .ok (.iconst 0, 1) := by decide +kernel
theorem d_L_law_739 : decode b_L_law 739 = .ok (.ireturn, 1) := by decide +kernel
theorem d_L_law_740 : decode b_L_law 740 = .ok (.aload_n 1, 1) := by decide +kernel
theorem d_L_law_741 : decode b_L_law 741 = .ok (.aload_n 0, 1) := by decide +kernel
theorem d_L_law_742 : decode b_L_law 742 = .ok (.iload 4, 2) := by decide +kernel
theorem d_L_law_744 : decode b_L_law 744 = .ok (.iconst 1, 1) := by decide +kernel
theorem d_L_law_745 : decode b_L_law 745 = .ok (.iadd, 1) := by decide +kernel
theorem d_L_law_746 : decode b_L_law 746 = .ok (.iaload, 1) := by decide +kernel
theorem d_L_law_747 : decode b_L_law 747 = .ok (.aload_n 0, 1) := by decide +kernel
theorem d_L_law_748 : decode b_L_law 748 = .ok (.iload 4, 2) := by decide +kernel
theorem d_L_law_750 : decode b_L_law 750 = .ok (.iconst 2, 1) := by decide +kernel
theorem d_L_law_751 : decode b_L_law 751 = .ok (.iadd, 1) := by decide +kernel
theorem d_L_law_752 : decode b_L_law 752 = .ok (.iaload, 1) := by decide +kernel
theorem d_L_law_753 : decode b_L_law 753 = .ok (.aload_n 3, 1) := by decide +kernel
theorem d_L_law_754 : decode b_L_law 754 = .ok (.invokestatic 111, 3) := by decide +kernel
theorem d_L_law_757 : decode b_L_law 757 = .ok (.istore 5, 2) := by decide +kernel
theorem d_L_law_759 : decode b_L_law 759 = .ok (.aload_n 2, 1) := by decide +kernel
theorem d_L_law_760 : decode b_L_law 760 = .ok (.aload_n 0, 1) := by decide +kernel
theorem d_L_law_761 : decode b_L_law 761 = .ok (.iload 4, 2) := by decide +kernel
theorem d_L_law_763 : decode b_L_law 763 = .ok (.iconst 1, 1) := by decide +kernel
theorem d_L_law_764 : decode b_L_law 764 = .ok (.iadd, 1) := by decide +kernel
theorem d_L_law_765 : decode b_L_law 765 = .ok (.iaload, 1) := by decide +kernel
theorem d_L_law_766 : decode b_L_law 766 = .ok (.aload_n 0, 1) := by decide +kernel
theorem d_L_law_767 : decode b_L_law 767 = .ok (.iload 4, 2) := by decide +kernel
theorem d_L_law_769 : decode b_L_law 769 = .ok (.iconst 2, 1) := by decide +kernel
theorem d_L_law_770 : decode b_L_law 770 = .ok (.iadd, 1) := by decide +kernel
theorem d_L_law_771 : decode b_L_law 771 = .ok (.iaload, 1) := by decide +kernel
theorem d_L_law_772 : decode b_L_law 772 = .ok (.invokevirtual 113, 3) := by decide +kernel
theorem d_L_law_775 : decode b_L_law 775 = .ok (.istore 6, 2) := by decide +kernel
theorem d_L_law_777 : decode b_L_law 777 = .ok (.aload_n 2, 1) := by decide +kernel
theorem d_L_law_778 : decode b_L_law 778 = .ok (.invokevirtual 72, 3) := by decide +kernel
theorem d_L_law_781 : decode b_L_law 781 = .ok (.iload 5, 2) := by decide +kernel
theorem d_L_law_783 : decode b_L_law 783 = .ok (.if_icmp .eq 5, 3) := by decide +kernel
theorem d_L_law_786 : decode b_L_law 786 = .ok (.iconst 0, 1) := by decide +kernel
theorem d_L_law_787 : decode b_L_law 787 = .ok (.ireturn, 1) := by decide +kernel
theorem d_L_law_788 : decode b_L_law 788 = .ok (.iload 5, 2) := by decide +kernel
theorem d_L_law_790 : decode b_L_law 790 = .ok (.ifCond .ne 15, 3) := by decide +kernel
theorem d_L_law_793 : decode b_L_law 793 = .ok (.aload_n 3, 1) := by decide +kernel
theorem d_L_law_794 : decode b_L_law 794 = .ok (.iconst 0, 1) := by decide +kernel
theorem d_L_law_795 : decode b_L_law 795 = .ok (.laload, 1) := by decide +kernel
theorem d_L_law_796 : decode b_L_law 796 = .ok (.iload 6, 2) := by decide +kernel
theorem d_L_law_798 : decode b_L_law 798 = .ok (.i2l, 1) := by decide +kernel
theorem d_L_law_799 : decode b_L_law 799 = .ok (.lcmp, 1) := by decide +kernel
theorem d_L_law_800 : decode b_L_law 800 = .ok (.ifCond .eq 5, 3) := by decide +kernel
theorem d_L_law_803 : decode b_L_law 803 = .ok (.iconst 0, 1) := by decide +kernel
theorem d_L_law_804 : decode b_L_law 804 = .ok (.ireturn, 1) := by decide +kernel
theorem d_L_law_805 : decode b_L_law 805 = .ok (.goto 187, 3) := by decide +kernel
theorem d_L_law_808 : decode b_L_law 808 = .ok (.aload_n 1, 1) := by decide +kernel
theorem d_L_law_809 : decode b_L_law 809 = .ok (.aload_n 0, 1) := by decide +kernel
theorem d_L_law_810 : decode b_L_law 810 = .ok (.iload 4, 2) := by decide +kernel
theorem d_L_law_812 : decode b_L_law 812 = .ok (.iconst 1, 1) := by decide +kernel
theorem d_L_law_813 : decode b_L_law 813 = .ok (.iadd, 1) := by decide +kernel
theorem d_L_law_814 : decode b_L_law 814 = .ok (.iaload, 1) := by decide +kernel
theorem d_L_law_815 : decode b_L_law 815 = .ok (.aload_n 0, 1) := by decide +kernel
theorem d_L_law_816 : decode b_L_law 816 = .ok (.iload 4, 2) := by decide +kernel
theorem d_L_law_818 : decode b_L_law 818 = .ok (.iconst 2, 1) := by decide +kernel
theorem d_L_law_819 : decode b_L_law 819 = .ok (.iadd, 1) := by decide +kernel
theorem d_L_law_820 : decode b_L_law 820 = .ok (.iaload, 1) := by decide +kernel
theorem d_L_law_821 : decode b_L_law 821 = .ok (.aload_n 0, 1) := by decide +kernel
theorem d_L_law_822 : decode b_L_law 822 = .ok (.iload 4, 2) := by decide +kernel
theorem d_L_law_824 : decode b_L_law 824 = .ok (.iconst 3, 1) := by decide +kernel
theorem d_L_law_825 : decode b_L_law 825 = .ok (.iadd, 1) := by decide +kernel
theorem d_L_law_826 : decode b_L_law 826 = .ok (.iaload, 1) := by decide +kernel
theorem d_L_law_827 : decode b_L_law 827 = .ok (.ifCond .eq 7, 3) := by decide +kernel
theorem d_L_law_830 : decode b_L_law 830 = .ok (.iconst 1, 1) := by decide +kernel
theorem d_L_law_831 : decode b_L_law 831 = .ok (.goto 4, 3) := by decide +kernel
theorem d_L_law_834 : decode b_L_law 834 = .ok (.iconst 0, 1) := by decide +kernel
theorem d_L_law_835 : decode b_L_law 835 = .ok (.aload_n 3, 1) := by decide +kernel
theorem d_L_law_836 : decode b_L_law 836 = .ok (.invokestatic 114, 3) := by decide +kernel
theorem d_L_law_839 : decode b_L_law 839 = .ok (.istore 5, 2) := by decide +kernel
theorem d_L_law_841 : decode b_L_law 841 = .ok (.aload_n 2, 1) := by decide +kernel
theorem d_L_law_842 : decode b_L_law 842 = .ok (.aload_n 0, 1) := by decide +kernel
theorem d_L_law_843 : decode b_L_law 843 = .ok (.iload 4, 2) := by decide +kernel
theorem d_L_law_845 : decode b_L_law 845 = .ok (.iconst 1, 1) := by decide +kernel
theorem d_L_law_846 : decode b_L_law 846 = .ok (.iadd, 1) := by decide +kernel
theorem d_L_law_847 : decode b_L_law 847 = .ok (.iaload, 1) := by decide +kernel
theorem d_L_law_848 : decode b_L_law 848 = .ok (.aload_n 0, 1) := by decide +kernel
theorem d_L_law_849 : decode b_L_law 849 = .ok (.iload 4, 2) := by decide +kernel
theorem d_L_law_851 : decode b_L_law 851 = .ok (.iconst 2, 1) := by decide +kernel
theorem d_L_law_852 : decode b_L_law 852 = .ok (.iadd, 1) := by decide +kernel
theorem d_L_law_853 : decode b_L_law 853 = .ok (.iaload, 1) := by decide +kernel
theorem d_L_law_854 : decode b_L_law 854 = .ok (.aload_n 0, 1) := by decide +kernel
theorem d_L_law_855 : decode b_L_law 855 = .ok (.iload 4, 2) := by decide +kernel
theorem d_L_law_857 : decode b_L_law 857 = .ok (.iconst 3, 1) := by decide +kernel
theorem d_L_law_858 : decode b_L_law 858 = .ok (.iadd, 1) := by decide +kernel
theorem d_L_law_859 : decode b_L_law 859 = .ok (.iaload, 1) := by decide +kernel
theorem d_L_law_860 : decode b_L_law 860 = .ok (.ifCond .eq 7, 3) := by decide +kernel
theorem d_L_law_863 : decode b_L_law 863 = .ok (.iconst 1, 1) := by decide +kernel
theorem d_L_law_864 : decode b_L_law 864 = .ok (.goto 4, 3) := by decide +kernel
theorem d_L_law_867 : decode b_L_law 867 = .ok (.iconst 0, 1) := by decide +kernel
theorem d_L_law_868 : decode b_L_law 868 = .ok (.invokevirtual 117, 3) := by decide +kernel
theorem d_L_law_871 : decode b_L_law 871 = .ok (.istore 6, 2) := by decide +kernel
theorem d_L_law_873 : decode b_L_law 873 = .ok (.aload_n 2, 1) := by decide +kernel
theorem d_L_law_874 : decode b_L_law 874 = .ok (.invokevirtual 72, 3) := by decide +kernel
theorem d_L_law_877 : decode b_L_law 877 = .ok (.iload 5, 2) := by decide +kernel
theorem d_L_law_879 : decode b_L_law 879 = .ok (.if_icmp .eq 5, 3) := by decide +kernel
theorem d_L_law_882 : decode b_L_law 882 = .ok (.iconst 0, 1) := by decide +kernel
theorem d_L_law_883 : decode b_L_law 883 = .ok (.ireturn, 1) := by decide +kernel
theorem d_L_law_884 : decode b_L_law 884 = .ok (.iload 5, 2) := by decide +kernel
theorem d_L_law_886 : decode b_L_law 886 = .ok (.ifCond .ne 15, 3) := by decide +kernel
theorem d_L_law_889 : decode b_L_law 889 = .ok (.aload_n 3, 1) := by decide +kernel
theorem d_L_law_890 : decode b_L_law 890 = .ok (.iconst 0, 1) := by decide +kernel
theorem d_L_law_891 : decode b_L_law 891 = .ok (.laload, 1) := by decide +kernel
theorem d_L_law_892 : decode b_L_law 892 = .ok (.iload 6, 2) := by decide +kernel
theorem d_L_law_894 : decode b_L_law 894 = .ok (.i2l, 1) := by decide +kernel
theorem d_L_law_895 : decode b_L_law 895 = .ok (.lcmp, 1) := by decide +kernel
theorem d_L_law_896 : decode b_L_law 896 = .ok (.ifCond .eq 5, 3) := by decide +kernel
theorem d_L_law_899 : decode b_L_law 899 = .ok (.iconst 0, 1) := by decide +kernel
theorem d_L_law_900 : decode b_L_law 900 = .ok (.ireturn, 1) := by decide +kernel
theorem d_L_law_901 : decode b_L_law 901 = .ok (.goto 91, 3) := by decide +kernel
theorem d_L_law_904 : decode b_L_law 904 = .ok (.aload_n 1, 1) := by decide +kernel
theorem d_L_law_905 : decode b_L_law 905 = .ok (.aload_n 0, 1) := by decide +kernel
theorem d_L_law_906 : decode b_L_law 906 = .ok (.iload 4, 2) := by decide +kernel
theorem d_L_law_908 : decode b_L_law 908 = .ok (.iconst 1, 1) := by decide +kernel
theorem d_L_law_909 : decode b_L_law 909 = .ok (.iadd, 1) := by decide +kernel
theorem d_L_law_910 : decode b_L_law 910 = .ok (.iaload, 1) := by decide +kernel
theorem d_L_law_911 : decode b_L_law 911 = .ok (.aload_n 0, 1) := by decide +kernel
theorem d_L_law_912 : decode b_L_law 912 = .ok (.iload 4, 2) := by decide +kernel
theorem d_L_law_914 : decode b_L_law 914 = .ok (.iconst 2, 1) := by decide +kernel
theorem d_L_law_915 : decode b_L_law 915 = .ok (.iadd, 1) := by decide +kernel
theorem d_L_law_916 : decode b_L_law 916 = .ok (.iaload, 1) := by decide +kernel
theorem d_L_law_917 : decode b_L_law 917 = .ok (.aload_n 0, 1) := by decide +kernel
theorem d_L_law_918 : decode b_L_law 918 = .ok (.iload 4, 2) := by decide +kernel
theorem d_L_law_920 : decode b_L_law 920 = .ok (.iconst 3, 1) := by decide +kernel
theorem d_L_law_921 : decode b_L_law 921 = .ok (.iadd, 1) := by decide +kernel
theorem d_L_law_922 : decode b_L_law 922 = .ok (.iaload, 1) := by decide +kernel
theorem d_L_law_923 : decode b_L_law 923 = .ok (.ifCond .eq 7, 3) := by decide +kernel
theorem d_L_law_926 : decode b_L_law 926 = .ok (.iconst 1, 1) := by decide +kernel
theorem d_L_law_927 : decode b_L_law 927 = .ok (.goto 4, 3) := by decide +kernel
theorem d_L_law_930 : decode b_L_law 930 = .ok (.iconst 0, 1) := by decide +kernel
theorem d_L_law_931 : decode b_L_law 931 = .ok (.aload_n 0, 1) := by decide +kernel
theorem d_L_law_932 : decode b_L_law 932 = .ok (.iload 4, 2) := by decide +kernel
theorem d_L_law_934 : decode b_L_law 934 = .ok (.iconst 4, 1) := by decide +kernel
theorem d_L_law_935 : decode b_L_law 935 = .ok (.iadd, 1) := by decide +kernel
theorem d_L_law_936 : decode b_L_law 936 = .ok (.iaload, 1) := by decide +kernel
theorem d_L_law_937 : decode b_L_law 937 = .ok (.invokestatic 118, 3) := by decide +kernel
theorem d_L_law_940 : decode b_L_law 940 = .ok (.istore 5, 2) := by decide +kernel
theorem d_L_law_942 : decode b_L_law 942 = .ok (.aload_n 2, 1) := by decide +kernel
theorem d_L_law_943 : decode b_L_law 943 = .ok (.aload_n 0, 1) := by decide +kernel
theorem d_L_law_944 : decode b_L_law 944 = .ok (.iload 4, 2) := by decide +kernel
theorem d_L_law_946 : decode b_L_law 946 = .ok (.iconst 1, 1) := by decide +kernel
theorem d_L_law_947 : decode b_L_law 947 = .ok (.iadd, 1) := by decide +kernel
theorem d_L_law_948 : decode b_L_law 948 = .ok (.iaload, 1) := by decide +kernel
theorem d_L_law_949 : decode b_L_law 949 = .ok (.aload_n 0, 1) := by decide +kernel
theorem d_L_law_950 : decode b_L_law 950 = .ok (.iload 4, 2) := by decide +kernel
theorem d_L_law_952 : decode b_L_law 952 = .ok (.iconst 2, 1) := by decide +kernel
theorem d_L_law_953 : decode b_L_law 953 = .ok (.iadd, 1) := by decide +kernel
theorem d_L_law_954 : decode b_L_law 954 = .ok (.iaload, 1) := by decide +kernel
theorem d_L_law_955 : decode b_L_law 955 = .ok (.aload_n 0, 1) := by decide +kernel
theorem d_L_law_956 : decode b_L_law 956 = .ok (.iload 4, 2) := by decide +kernel
theorem d_L_law_958 : decode b_L_law 958 = .ok (.iconst 3, 1) := by decide +kernel
theorem d_L_law_959 : decode b_L_law 959 = .ok (.iadd, 1) := by decide +kernel
theorem d_L_law_960 : decode b_L_law 960 = .ok (.iaload, 1) := by decide +kernel
theorem d_L_law_961 : decode b_L_law 961 = .ok (.ifCond .eq 7, 3) := by decide +kernel
theorem d_L_law_964 : decode b_L_law 964 = .ok (.iconst 1, 1) := by decide +kernel
theorem d_L_law_965 : decode b_L_law 965 = .ok (.goto 4, 3) := by decide +kernel
theorem d_L_law_968 : decode b_L_law 968 = .ok (.iconst 0, 1) := by decide +kernel
theorem d_L_law_969 : decode b_L_law 969 = .ok (.aload_n 0, 1) := by decide +kernel
theorem d_L_law_970 : decode b_L_law 970 = .ok (.iload 4, 2) := by decide +kernel
theorem d_L_law_972 : decode b_L_law 972 = .ok (.iconst 4, 1) := by decide +kernel
theorem d_L_law_973 : decode b_L_law 973 = .ok (.iadd, 1) := by decide +kernel
theorem d_L_law_974 : decode b_L_law 974 = .ok (.iaload, 1) := by decide +kernel
theorem d_L_law_975 : decode b_L_law 975 = .ok (.invokevirtual 121, 3) := by decide +kernel
theorem d_L_law_978 : decode b_L_law 978 = .ok (.aload_n 2, 1) := by decide +kernel
theorem d_L_law_979 : decode b_L_law 979 = .ok (.invokevirtual 72, 3) := by decide +kernel
theorem d_L_law_982 : decode b_L_law 982 = .ok (.iload 5, 2) := by decide +kernel
theorem d_L_law_984 : decode b_L_law 984 = .ok (.if_icmp .eq 5, 3) := by decide +kernel
theorem d_L_law_987 : decode b_L_law 987 = .ok (.iconst 0, 1) := by decide +kernel
theorem d_L_law_988 : decode b_L_law 988 = .ok (.ireturn, 1) := by decide +kernel
theorem d_L_law_989 : decode b_L_law 989 = .ok (.goto 3, 3) := by decide +kernel
theorem d_L_law_992 : decode b_L_law 992 = .ok (.iinc 4 7, 3) := by decide +kernel
theorem d_L_law_995 : decode b_L_law 995 = .ok (.goto (-972), 3) := by decide +kernel
theorem d_L_law_998 : decode b_L_law 998 = .ok (.iconst 1, 1) := by decide +kernel
theorem d_L_law_999 : decode b_L_law 999 = .ok (.ireturn, 1) := by decide +kernel
end
section
/-! ===== a world by addresses: what is known of the heap, as a function; arrays by the number of their type ===== -/
abbrev aw_M : Type := Nat → Option va_E
/-- the heap's size where it is known, and what lies in it -/
abbrev aw_W : Type := Option Nat × aw_M
def aw_up (dA : Nat → ClassId) (e : va_E) : va_E := match e with
  | .inl a => .inl (dA a.1, a.2)
  | .inr o => .inr o
def aw_R (D : va_G) (dA : Nat → ClassId) (w : aw_W) (H : Heap) : Prop := (∀ z, w.1 = some z → H.size = z) ∧ ∀ a e, w.2 a = some e → va_at D aCl (a, aw_up dA e) H
def aw_set (w : aw_W) (a : Nat) (e : va_E) : aw_W := (w.1, fun q => if q = a then some e else w.2 q)
def aw_add (w : aw_W) (z : Nat) (e : va_E) : aw_W := (some (z + 1), fun q => if q = z then some e else w.2 q)
/-- every cell of the world lies from the base on -/
def aw_In (base : Nat) (w : aw_W) : Prop := ∀ a e, w.2 a = some e → base ≤ a
theorem aw_set_get {w : aw_W} {a : Nat} {e : va_E} {q : Nat} : (aw_set w a e).2 q = if q = a then some e else w.2 q := rfl
theorem aw_add_get {w : aw_W} {z : Nat} {e : va_E} {q : Nat} : (aw_add w z e).2 q = if q = z then some e else w.2 q := rfl
/-! reads and writes of the world, by a reference that may be null -/
def aw_obj (w : aw_W) (r : Option Nat) (ci : Nat) : Option (Nat × List Value) := match r with
  | none => none
  | some a => match w.2 a with
    | some (.inr o) => if o.1 = ci then some (a, o.2) else none
    | _ => none
def aw_arr (w : aw_W) (r : Option Nat) (t : Nat) : Option (Nat × vp_A) := match r with
  | none => none
  | some a => match w.2 a with
    | some (.inl x) => if x.1 = t then some (a, x.2) else none
    | _ => none
theorem aw_obj_some {w : aw_W} {r : Option Nat} {ci : Nat} {q : Nat × List Value} (h : aw_obj w r ci = some q) : r = some q.1 ∧ w.2 q.1 = some (.inr (ci, q.2)) := by
  unfold aw_obj at h
  cases r with
  | none => simp at h
  | some a =>
    dsimp only at h
    cases hw : w.2 a with
    | none => rw [hw] at h; simp at h
    | some e =>
      rw [hw] at h
      cases e with
      | inl x => simp at h
      | inr o =>
        obtain ⟨o1, o2⟩ := o
        dsimp only at h
        by_cases hc : o1 = ci
        · rw [if_pos hc] at h
          cases h
          exact ⟨rfl, by rw [hw, hc]⟩
        · rw [if_neg hc] at h; simp at h
theorem aw_arr_some {w : aw_W} {r : Option Nat} {t : Nat} {q : Nat × vp_A} (h : aw_arr w r t = some q) : r = some q.1 ∧ w.2 q.1 = some (.inl (t, q.2)) := by
  unfold aw_arr at h
  cases r with
  | none => simp at h
  | some a =>
    dsimp only at h
    cases hw : w.2 a with
    | none => rw [hw] at h; simp at h
    | some e =>
      rw [hw] at h
      cases e with
      | inr x => simp at h
      | inl o =>
        obtain ⟨o1, o2⟩ := o
        dsimp only at h
        by_cases hc : o1 = t
        · rw [if_pos hc] at h
          cases h
          exact ⟨rfl, by rw [hw, hc]⟩
        · rw [if_neg hc] at h; simp at h
theorem aw_obj_of {w : aw_W} {a ci : Nat} {fs : List Value} (h : w.2 a = some (.inr (ci, fs))) : aw_obj w (some a) ci = some (a, fs) := by
  unfold aw_obj
  dsimp only
  rw [h]
  exact if_pos rfl
theorem aw_arr_of {w : aw_W} {a t : Nat} {x : vp_A} (h : w.2 a = some (.inl (t, x))) : aw_arr w (some a) t = some (a, x) := by
  unfold aw_arr
  dsimp only
  rw [h]
  exact if_pos rfl
/-- a field -/
def aw_gV (w : aw_W) (r : Option Nat) (ci k : Nat) : Option Value := (aw_obj w r ci).bind fun q => q.2[k]?
def aw_vI (v : Value) : Option Int32 := match v with
  | .int x => some x
  | _ => none
def aw_vL (v : Value) : Option Int64 := match v with
  | .long x => some x
  | _ => none
def aw_vR (v : Value) : Option (Option Nat) := match v with
  | .ref a => some (some a)
  | .null => some none
  | _ => none
def aw_gI (w : aw_W) (r : Option Nat) (ci k : Nat) : Option Int32 := (aw_gV w r ci k).bind aw_vI
def aw_gL (w : aw_W) (r : Option Nat) (ci k : Nat) : Option Int64 := (aw_gV w r ci k).bind aw_vL
def aw_gR (w : aw_W) (r : Option Nat) (ci k : Nat) : Option (Option Nat) := (aw_gV w r ci k).bind aw_vR
def aw_pV (w : aw_W) (r : Option Nat) (ci k : Nat) (v : Value) : Option aw_W := (aw_obj w r ci).bind fun q => if k < q.2.length then some (aw_set w q.1 (.inr (ci, q.2.set k v))) else none
theorem aw_vI_some {v : Value} {x : Int32} (h : aw_vI v = some x) : v = .int x := by
  cases v <;> simp [aw_vI] at h
  rw [h]
theorem aw_vL_some {v : Value} {x : Int64} (h : aw_vL v = some x) : v = .long x := by
  cases v <;> simp [aw_vL] at h
  rw [h]
theorem aw_vR_some {v : Value} {x : Option Nat} (h : aw_vR v = some x) : v = va_rf x := by
  cases v <;> simp [aw_vR] at h <;> (rw [← h]; rfl)
/-- an element -/
def aw_out (i : Int32) (n : Nat) : Prop := i < 0 ∨ n ≤ i.toNatClampNeg
def aw_ix (i : Int32) (n : Nat) : Option Nat := if i < 0 then none else if n ≤ i.toNatClampNeg then none else some i.toNatClampNeg
theorem aw_ix_some {i : Int32} {n j : Nat} (h : aw_ix i n = some j) : vp_in i n ∧ i.toNatClampNeg = j := by
  unfold aw_ix at h
  by_cases h1 : i < 0
  · rw [if_pos h1] at h; cases h
  · rw [if_neg h1] at h
    by_cases h2 : n ≤ i.toNatClampNeg
    · rw [if_pos h2] at h; cases h
    · rw [if_neg h2] at h
      exact ⟨fun q => q.elim h1 h2, Option.some.inj h⟩
theorem aw_ix_nI {j n : Nat} (h : j < n) (hn : n < 2 ^ 31) : aw_ix (nI j) n = some j := by
  have h1 := nI_pos (n := j) (by omega)
  have h2 := nI_clamp (n := j) (by omega)
  unfold aw_ix
  rw [if_neg h1, h2, if_neg (by omega)]
def aw_len (w : aw_W) (r : Option Nat) (t : Nat) : Option Int32 := (aw_arr w r t).map fun q => Int32.ofNat q.2.1
def aw_aI (w : aw_W) (r : Option Nat) (t : Nat) (i : Int32) : Option Int32 := (aw_arr w r t).bind fun q => match q.2.2 with
  | .inl f => (aw_ix i q.2.1).map f
  | _ => none
def aw_aL (w : aw_W) (r : Option Nat) (t : Nat) (i : Int32) : Option Int64 := (aw_arr w r t).bind fun q => match q.2.2 with
  | .inr (.inl f) => (aw_ix i q.2.1).map f
  | _ => none
def aw_aR (w : aw_W) (r : Option Nat) (t : Nat) (i : Int32) : Option (Option Nat) := (aw_arr w r t).bind fun q => match q.2.2 with
  | .inr (.inr (.inr (.inr f))) => (aw_ix i q.2.1).map f
  | _ => none
def aw_sI (w : aw_W) (r : Option Nat) (t : Nat) (i : Int32) (x : Int32) : Option aw_W := (aw_arr w r t).bind fun q => match q.2.2 with
  | .inl f => (aw_ix i q.2.1).map fun j => aw_set w q.1 (.inl (t, q.2.1, .inl (upd f j x)))
  | _ => none
def aw_sL (w : aw_W) (r : Option Nat) (t : Nat) (i : Int32) (x : Int64) : Option aw_W := (aw_arr w r t).bind fun q => match q.2.2 with
  | .inr (.inl f) => (aw_ix i q.2.1).map fun j => aw_set w q.1 (.inl (t, q.2.1, .inr (.inl (vp_updL f j x))))
  | _ => none
def aw_sR (w : aw_W) (r : Option Nat) (t : Nat) (i : Int32) (x : Option Nat) : Option aw_W := (aw_arr w r t).bind fun q => match q.2.2 with
  | .inr (.inr (.inr (.inr f))) => (aw_ix i q.2.1).map fun j => aw_set w q.1 (.inl (t, q.2.1, .inr (.inr (.inr (.inr (va_up f j x))))))
  | _ => none
theorem aw_aI_some {w : aw_W} {r : Option Nat} {t : Nat} {i x : Int32} (h : aw_aI w r t i = some x) : ∃ a n f, r = some a ∧ w.2 a = some (.inl (t, n, .inl f)) ∧ vp_in i n ∧ f i.toNatClampNeg = x := by
  obtain ⟨⟨a, n, g⟩, h1, h2⟩ := Option.bind_eq_some_iff.mp h
  obtain ⟨e1, e2⟩ := aw_arr_some h1
  dsimp only at e1 e2 h2
  cases g with
  | inl f =>
    obtain ⟨j, h3, h4⟩ := Option.map_eq_some_iff.mp h2
    obtain ⟨h5, h6⟩ := aw_ix_some h3
    exact ⟨a, n, f, e1, e2, h5, by rw [h6]; exact h4⟩
  | inr g => simp at h2
theorem aw_aL_some {w : aw_W} {r : Option Nat} {t : Nat} {i : Int32} {x : Int64} (h : aw_aL w r t i = some x) : ∃ a n f, r = some a ∧ w.2 a = some (.inl (t, n, .inr (.inl f))) ∧ vp_in i n ∧ f i.toNatClampNeg = x := by
  obtain ⟨⟨a, n, g⟩, h1, h2⟩ := Option.bind_eq_some_iff.mp h
  obtain ⟨e1, e2⟩ := aw_arr_some h1
  dsimp only at e1 e2 h2
  rcases g with f | f | g
  · simp at h2
  · obtain ⟨j, h3, h4⟩ := Option.map_eq_some_iff.mp h2
    obtain ⟨h5, h6⟩ := aw_ix_some h3
    exact ⟨a, n, f, e1, e2, h5, by rw [h6]; exact h4⟩
  · simp at h2
theorem aw_aR_some {w : aw_W} {r : Option Nat} {t : Nat} {i : Int32} {x : Option Nat} (h : aw_aR w r t i = some x) : ∃ a n f, r = some a ∧ w.2 a = some (.inl (t, n, .inr (.inr (.inr (.inr f))))) ∧ vp_in i n ∧ f i.toNatClampNeg = x := by
  obtain ⟨⟨a, n, g⟩, h1, h2⟩ := Option.bind_eq_some_iff.mp h
  obtain ⟨e1, e2⟩ := aw_arr_some h1
  dsimp only at e1 e2 h2
  rcases g with f | f | f | f | f
  · simp at h2
  · simp at h2
  · simp at h2
  · simp at h2
  · obtain ⟨j, h3, h4⟩ := Option.map_eq_some_iff.mp h2
    obtain ⟨h5, h6⟩ := aw_ix_some h3
    exact ⟨a, n, f, e1, e2, h5, by rw [h6]; exact h4⟩
theorem aw_sI_some {w w' : aw_W} {r : Option Nat} {t : Nat} {i x : Int32} (h : aw_sI w r t i x = some w') : ∃ a n f, r = some a ∧ w.2 a = some (.inl (t, n, .inl f)) ∧ vp_in i n ∧ w' = aw_set w a (.inl (t, n, .inl (upd f i.toNatClampNeg x))) := by
  obtain ⟨⟨a, n, g⟩, h1, h2⟩ := Option.bind_eq_some_iff.mp h
  obtain ⟨e1, e2⟩ := aw_arr_some h1
  dsimp only at e1 e2 h2
  cases g with
  | inl f =>
    obtain ⟨j, h3, h4⟩ := Option.map_eq_some_iff.mp h2
    obtain ⟨h5, h6⟩ := aw_ix_some h3
    exact ⟨a, n, f, e1, e2, h5, by rw [h6]; exact h4.symm⟩
  | inr g => simp at h2
theorem aw_sL_some {w w' : aw_W} {r : Option Nat} {t : Nat} {i : Int32} {x : Int64} (h : aw_sL w r t i x = some w') : ∃ a n f, r = some a ∧ w.2 a = some (.inl (t, n, .inr (.inl f))) ∧ vp_in i n ∧ w' = aw_set w a (.inl (t, n, .inr (.inl (vp_updL f i.toNatClampNeg x)))) := by
  obtain ⟨⟨a, n, g⟩, h1, h2⟩ := Option.bind_eq_some_iff.mp h
  obtain ⟨e1, e2⟩ := aw_arr_some h1
  dsimp only at e1 e2 h2
  rcases g with f | f | g
  · simp at h2
  · obtain ⟨j, h3, h4⟩ := Option.map_eq_some_iff.mp h2
    obtain ⟨h5, h6⟩ := aw_ix_some h3
    exact ⟨a, n, f, e1, e2, h5, by rw [h6]; exact h4.symm⟩
  · simp at h2
theorem aw_sR_some {w w' : aw_W} {r : Option Nat} {t : Nat} {i : Int32} {x : Option Nat} (h : aw_sR w r t i x = some w') : ∃ a n f, r = some a ∧ w.2 a = some (.inl (t, n, .inr (.inr (.inr (.inr f))))) ∧ vp_in i n ∧ w' = aw_set w a (.inl (t, n, .inr (.inr (.inr (.inr (va_up f i.toNatClampNeg x)))))) := by
  obtain ⟨⟨a, n, g⟩, h1, h2⟩ := Option.bind_eq_some_iff.mp h
  obtain ⟨e1, e2⟩ := aw_arr_some h1
  dsimp only at e1 e2 h2
  rcases g with f | f | f | f | f
  · simp at h2
  · simp at h2
  · simp at h2
  · simp at h2
  · obtain ⟨j, h3, h4⟩ := Option.map_eq_some_iff.mp h2
    obtain ⟨h5, h6⟩ := aw_ix_some h3
    exact ⟨a, n, f, e1, e2, h5, by rw [h6]; exact h4.symm⟩
theorem aw_pV_some {w w' : aw_W} {r : Option Nat} {ci k : Nat} {v : Value} (h : aw_pV w r ci k v = some w') : ∃ a fs, r = some a ∧ w.2 a = some (.inr (ci, fs)) ∧ k < fs.length ∧ w' = aw_set w a (.inr (ci, fs.set k v)) := by
  obtain ⟨⟨a, fs⟩, h1, h2⟩ := Option.bind_eq_some_iff.mp h
  obtain ⟨e1, e2⟩ := aw_obj_some h1
  dsimp only at e1 e2 h2
  by_cases hk : k < fs.length
  · rw [if_pos hk] at h2
    exact ⟨a, fs, e1, e2, hk, (Option.some.inj h2).symm⟩
  · rw [if_neg hk] at h2; cases h2
theorem aw_gV_some {w : aw_W} {r : Option Nat} {ci k : Nat} {v : Value} (h : aw_gV w r ci k = some v) : ∃ a fs, r = some a ∧ w.2 a = some (.inr (ci, fs)) ∧ fs[k]? = some v := by
  obtain ⟨⟨a, fs⟩, h1, h2⟩ := Option.bind_eq_some_iff.mp h
  obtain ⟨e1, e2⟩ := aw_obj_some h1
  exact ⟨a, fs, e1, e2, h2⟩
/-! the world and the heap -/
theorem aw_R.cell {D : va_G} {dA : Nat → ClassId} {w : aw_W} {H : Heap} (h : aw_R D dA w H) {a : Nat} {e : va_E} (he : w.2 a = some e) : va_P D aCl [(a, aw_up dA e)] H := by
  intro k q hk
  have hz : k < 1 := (List.getElem?_eq_some_iff.mp hk).1
  rw [show k = 0 by omega] at hk
  cases hk
  exact h.2 a e he
theorem aw_R.set {D : va_G} {dA : Nat → ClassId} {w : aw_W} {H H1 : Heap} (h : aw_R D dA w H) {a : Nat} {e : va_E} (he : va_at D aCl (a, aw_up dA e) H1) (hz : H1.size = H.size) (hq : ∀ q : Nat, q ≠ a → H1[q]? = H[q]?) : aw_R D dA (aw_set w a e) H1 := by
  refine ⟨fun z hz' => (by rw [hz]; exact h.1 z hz'), fun q e' he' => ?_⟩
  rw [aw_set_get] at he'
  by_cases hqa : q = a
  · rw [if_pos hqa] at he'
    cases he'
    rw [hqa]
    exact he
  · rw [if_neg hqa] at he'
    exact (h.2 q e' he').kept (hq q hqa)
theorem aw_R.add {D : va_G} {dA : Nat → ClassId} {w : aw_W} {H H1 : Heap} (h : aw_R D dA w H) {z : Nat} {e : va_E} (hz : H.size = z) (he : va_at D aCl (z, aw_up dA e) H1) (hz1 : H1.size = z + 1) (hq : ∀ q : Nat, q < z → H1[q]? = H[q]?) : aw_R D dA (aw_add w z e) H1 := by
  refine ⟨fun z' hz' => (by cases hz'; exact hz1), fun q e' he' => ?_⟩
  rw [aw_add_get] at he'
  by_cases hqa : q = z
  · rw [if_pos hqa] at he'
    cases he'
    rw [hqa]
    exact he
  · rw [if_neg hqa] at he'
    have hlt := (h.2 q e' he').lt
    exact (h.2 q e' he').kept (hq q (by rw [← hz]; exact hlt))
theorem aw_R.kept {D : va_G} {dA : Nat → ClassId} {w : aw_W} {H H1 : Heap} (h : aw_R D dA w H) (hq : ∀ q : Nat, q < H.size → H1[q]? = H[q]?) : aw_R D dA (none, w.2) H1 := by
  refine ⟨fun z hz => (by cases hz), fun q e he => ?_⟩
  exact (h.2 q e he).kept (hq q (h.2 q e he).lt)
theorem aw_In.set {base : Nat} {w : aw_W} (h : aw_In base w) {a : Nat} {e e0 : va_E} (ha : w.2 a = some e0) : aw_In base (aw_set w a e) := by
  intro q e' he
  rw [aw_set_get] at he
  by_cases hq : q = a
  · rw [hq]; exact h a e0 ha
  · rw [if_neg hq] at he; exact h q e' he
theorem aw_In.add {base : Nat} {w : aw_W} (h : aw_In base w) {z : Nat} {e : va_E} (hz : base ≤ z) : aw_In base (aw_add w z e) := by
  intro q e' he
  rw [aw_add_get] at he
  by_cases hq : q = z
  · rw [hq]; exact hz
  · rw [if_neg hq] at he; exact h q e' he
/-! a loop that comes to an end, as a partial function -/
def aw_it {σ τ : Type} (body : σ → Option (σ ⊕ τ)) : Nat → σ → Option τ
  | 0, _ => none
  | n + 1, s => match body s with
    | none => none
    | some (.inl s') => aw_it body n s'
    | some (.inr r) => some r
noncomputable def aw_wh {σ τ : Type} (body : σ → Option (σ ⊕ τ)) (s : σ) : Option τ :=
  match Classical.propDecidable (∃ (n : Nat) (r : τ), aw_it body n s = some r) with
  | .isTrue h => aw_it body (Classical.choose h) s
  | .isFalse _ => none
theorem aw_it_mono {σ τ : Type} {body : σ → Option (σ ⊕ τ)} : ∀ (n m : Nat) (s : σ) (r : τ), n ≤ m → aw_it body n s = some r → aw_it body m s = some r := by
  intro n
  induction n with
  | zero => intro m s r _ h; cases h
  | succ n ih =>
    intro m s r hm h
    cases m with
    | zero => omega
    | succ m =>
      simp only [aw_it] at h ⊢
      cases hb : body s with
      | none => rw [hb] at h; cases h
      | some x =>
        rw [hb] at h
        cases x with
        | inl s' => exact ih m s' r (by omega) h
        | inr r' => exact h
theorem aw_wh_it {σ τ : Type} {body : σ → Option (σ ⊕ τ)} {s : σ} {r : τ} (h : aw_wh body s = some r) : ∃ n, aw_it body n s = some r := by
  unfold aw_wh at h
  split at h
  · next hx _ => exact ⟨_, h⟩
  · cases h
theorem aw_wh_of {σ τ : Type} {body : σ → Option (σ ⊕ τ)} {s : σ} {r : τ} {n : Nat} (h : aw_it body n s = some r) : aw_wh body s = some r := by
  unfold aw_wh
  split
  · next hx _ =>
    obtain ⟨r', hr'⟩ := Classical.choose_spec hx
    rw [hr']
    rcases Nat.le_total n (Classical.choose hx) with hle | hle
    · exact hr'.symm.trans (aw_it_mono _ _ _ _ hle h)
    · exact (aw_it_mono _ _ _ _ hle hr').symm.trans h
  · next hx _ => exact absurd ⟨n, r, h⟩ hx
theorem aw_wh_in {σ τ : Type} {body : σ → Option (σ ⊕ τ)} {s s' : σ} (h : body s = some (.inl s')) : aw_wh body s = aw_wh body s' := by
  cases hw : aw_wh body s' with
  | some r =>
    obtain ⟨n, hn⟩ := aw_wh_it hw
    exact aw_wh_of (n := n + 1) (by simp only [aw_it]; rw [h]; exact hn)
  | none =>
    cases hs : aw_wh body s with
    | none => rfl
    | some r =>
      obtain ⟨n, hn⟩ := aw_wh_it hs
      cases n with
      | zero => cases hn
      | succ n =>
        simp only [aw_it] at hn
        rw [h] at hn
        rw [aw_wh_of hn] at hw
        cases hw
theorem aw_wh_out {σ τ : Type} {body : σ → Option (σ ⊕ τ)} {s : σ} {r : τ} (h : body s = some (.inr r)) : aw_wh body s = some r :=
  aw_wh_of (n := 1) (by simp only [aw_it]; rw [h])
theorem aw_wh_elim {σ τ : Type} {body : σ → Option (σ ⊕ τ)} {r : τ} (P : σ → Prop) (hP : ∀ (s : σ) (x : σ ⊕ τ), body s = some x → (∀ s', x = .inl s' → P s') → (∀ r', x = .inr r' → r' = r) → P s) {s : σ} (h : aw_wh body s = some r) : P s := by
  obtain ⟨n, hn⟩ := aw_wh_it h
  clear h
  induction n generalizing s with
  | zero => cases hn
  | succ n ih =>
    simp only [aw_it] at hn
    cases hb : body s with
    | none => rw [hb] at hn; cases hn
    | some x =>
      rw [hb] at hn
      refine hP s x hb (fun s' e => ?_) (fun r' e => ?_)
      · subst e
        exact ih hn
      · subst e
        exact Option.some.inj hn
end
section
/-! ===== what stays the same while a method runs, and the judgement 'from here the method comes to its end' ===== -/
def aw_tys (dA : Nat → ClassId) : List (ClassId × FieldType) := [(dA 0, .byte), (dA 1, .int), (dA 2, .long), (dA 3, .boolean), (dA 4, .object "AppendStore$Rec"), (dA 5, .object "AppendStore$StoreFile")]
theorem aw_at {w : Cond} (h : aw_ok w = true) {s U : State} {A : Array Value} (hW : s.WarmedH U.vm) (hs : va_Nw w s) : w.before A U = true := by
  cases w <;> first
    | exact va_Nw.use rfl (va_Nw.warmF hW hs)
    | exact va_Nw.use rfl (va_Nw.warmM hW hs)
    | exact va_Nw.use rfl (va_Nw.warmC hW hs)
    | exact va_Nw.use rfl (va_Nw.warmD hW hs)
    | exact word_at hW (good_of_word h) hs
    | (next ty => cases ty <;> first | exact va_AO.use (va_AO.moved hW.alike (va_AO.of hs)) | exact word_at hW (good_of_word h) hs)
/-- a static field of a reference, its cell below the base: what it holds, where it lies -/
def aw_Z (n d : String) (base : Nat) (U : State) (H : Heap) : Prop := va_Zq "java/lang/Throwable" n d (fun q => base ≤ q) U H ∧
  ∃ (c : ClassId) (k : Class) (i : Nat) (f : Field) (a : Nat) (cell : Cell), U.vm.findClass "java/lang/Throwable" = some c ∧ U.fieldFound? "java/lang/Throwable" n d = some (c, k, i, f) ∧ f.isStatic = true ∧ k.statics = some a ∧ H[a]? = some cell ∧ cell.vm.isStatics = true ∧ cell.cls = c ∧ f.slot < cell.slots.size ∧ k.staticTypes[f.slot]? = some f.type ∧ ¬ base ≤ a
theorem aw_Z.moved {n d : String} {base : Nat} {u U : State} {H : Heap} (hvm : u.vm.Alike U.vm) (h : aw_Z n d base u H) : aw_Z n d base U H := by
  obtain ⟨h0, c, k, i, f, a, cell, h1, h2, h3, h4, h5, h6, h7, h8, h9, h10⟩ := h
  obtain ⟨k', hi', he⟩ := State.fieldFound?_setVm hvm h2
  exact ⟨h0.moved hvm, c, k', i, f, a, cell, by rw [hvm.findClass]; exact h1, hi', h3, by rw [he]; exact h4, h5, h6, h7, h8, by rw [he]; exact h9, h10⟩
theorem aw_Z.kept {n d : String} {base : Nat} {U : State} {H H1 : Heap} (h : aw_Z n d base U H) (hq : ∀ a : Nat, a < H.size → ¬ base ≤ a → H1[a]? = H[a]?) : aw_Z n d base U H1 := by
  obtain ⟨h0, c, k, i, f, a, cell, h1, h2, h3, h4, h5, h6, h7, h8, h9, h10⟩ := h
  exact ⟨h0.kept hq, c, k, i, f, a, cell, h1, h2, h3, h4, by rw [hq a (Array.getElem?_eq_some_iff.mp h5).1 h10]; exact h5, h6, h7, h8, h9, h10⟩
/-- the texts that are thrown -/
def aw_ss : List (String × Nat × String) := [("AppendStore", 204, "a number is outside its range"), ("AppendStore", 202, "the store is closed"), ("AppendStore", 219, "full"), ("AppendStore", 63, "the key has no value"), ("AppendStore", 76, "the record is broken"), ("AppendStore", 91, "there is no such key"), ("AppendStore", 148, "there is no sealed file"), ("AppendStore", 168, "there is no such file"), ("AppendStore", 210, "there is no such byte")]
def aw_K (D : va_G) (dA : Nat → ClassId) (base : Nat) (U : State) : Prop :=
  va_K D aCl (aw_tys dA) U ∧ (∀ w ∈ aw_ws, va_Nw w U) ∧ (∀ q ∈ aw_ss, ∃ a, vk_R q.1 q.2.1 q.2.2 a U) ∧ aw_Z "UNASSIGNED_STACK" "[Ljava/lang/StackTraceElement;" base U U.heap ∧ aw_Z "SUPPRESSED_SENTINEL" "Ljava/util/List;" base U U.heap ∧ base ≤ U.heap.size
theorem aw_K.warm {D : va_G} {dA : Nat → ClassId} {base : Nat} {s U : State} (h : aw_K D dA base s) (hW : s.WarmedH U.vm) (hz : s.heap.size ≤ U.heap.size) (hq : ∀ q : Nat, q < s.heap.size → ¬ base ≤ q → U.heap[q]? = s.heap[q]?) : aw_K D dA base U := by
  obtain ⟨k1, k2, k3, k4, k5, k6⟩ := h
  refine ⟨va_K.moved hW.alike k1, fun w hw => aw_at (aw_ws_ok hw) hW (k2 w hw), fun q hq9 => ?_, aw_Z.moved hW.alike (k4.kept hq), aw_Z.moved hW.alike (k5.kept hq), Nat.le_trans k6 hz⟩
  obtain ⟨a, ha⟩ := k3 q hq9
  exact ⟨a, vk_R.warm hW ha⟩
/-- the machine, the launch, .. of a method that runs; its end; the classes' numbers; the base -/
abbrev aj_G : Type := Program × Launch × Env × Room × State × MethodId × Array Value × List Frame × Method × Code × (State → Prop) × va_G × (Nat → ClassId) × Nat
abbrev gp (Γ : aj_G) : Program := Γ.1
abbrev gl (Γ : aj_G) : Launch := Γ.2.1
abbrev ge (Γ : aj_G) : Env := Γ.2.2.1
abbrev gR (Γ : aj_G) : Room := Γ.2.2.2.1
abbrev gs (Γ : aj_G) : State := Γ.2.2.2.2.1
abbrev gm (Γ : aj_G) : MethodId := Γ.2.2.2.2.2.1
abbrev ga (Γ : aj_G) : Array Value := Γ.2.2.2.2.2.2.1
abbrev gb (Γ : aj_G) : List Frame := Γ.2.2.2.2.2.2.2.1
abbrev gme (Γ : aj_G) : Method := Γ.2.2.2.2.2.2.2.2.1
abbrev gc (Γ : aj_G) : Code := Γ.2.2.2.2.2.2.2.2.2.1
abbrev gQ (Γ : aj_G) : State → Prop := Γ.2.2.2.2.2.2.2.2.2.2.1
abbrev gD (Γ : aj_G) : va_G := Γ.2.2.2.2.2.2.2.2.2.2.2.1
abbrev gA (Γ : aj_G) : Nat → ClassId := Γ.2.2.2.2.2.2.2.2.2.2.2.2.1
abbrev gB (Γ : aj_G) : Nat := Γ.2.2.2.2.2.2.2.2.2.2.2.2.2
def aj_ok (Γ : aj_G) (y : MethodName) (cc : ByteArray) (nL : Nat) (ret : Option FieldType) (rm : Room) : Prop :=
  (gp Γ).tables.exec = Jvm.exec ∧ (gc Γ).code = cc ∧ (gc Γ).maxLocals = nL ∧ (gs Γ).vm.findClass y.cls = some (gm Γ).cls ∧ aw_K (gD Γ) (gA Γ) (gB Γ) (gs Γ) ∧ (gme Γ).locks = false ∧ (gme Γ).sig.returnType = ret ∧ (gl Γ).stackTraces = false ∧ gR Γ = rm ∧ (gme Γ).name = y.name
section
variable {Γ : aj_G} {y : MethodName} {cc : ByteArray} {nL : Nat} {ret : Option FieldType} {rm : Room}
theorem aj_ok.maxL (G : aj_ok Γ y cc nL ret rm) : (gc Γ).maxLocals = nL := G.2.2.1
theorem aj_ok.own (G : aj_ok Γ y cc nL ret rm) : (gs Γ).vm.findClass y.cls = some (gm Γ).cls := G.2.2.2.1
theorem aj_ok.K (G : aj_ok Γ y cc nL ret rm) : aw_K (gD Γ) (gA Γ) (gB Γ) (gs Γ) := G.2.2.2.2.1
theorem aj_ok.locks (G : aj_ok Γ y cc nL ret rm) : (gme Γ).locks = false := G.2.2.2.2.2.1
theorem aj_ok.retT (G : aj_ok Γ y cc nL ret rm) : (gme Γ).sig.returnType = ret := G.2.2.2.2.2.2.1
theorem aj_ok.off (G : aj_ok Γ y cc nL ret rm) : (gl Γ).stackTraces = false := G.2.2.2.2.2.2.2.1
theorem aj_ok.room (G : aj_ok Γ y cc nL ret rm) : gR Γ = rm := G.2.2.2.2.2.2.2.2.1
theorem aj_ok.name (G : aj_ok Γ y cc nL ret rm) : (gme Γ).name = y.name := G.2.2.2.2.2.2.2.2.2
theorem aj_ok.word (G : aj_ok Γ y cc nL ret rm) {w : Cond} (hw : w ∈ aw_ws) {A : Array Value} : w.before A (gs Γ) = true := aw_at (aw_ws_ok hw) (State.WarmedH.refl (gs Γ)) (G.K.2.1 w hw)
end
/-- what a local or a place of the stack holds: a number, a long, a reference that may be null -/
abbrev aV : Type := Int32 ⊕ Int64 ⊕ Option Nat
abbrev aI (x : Int32) : aV := .inl x
abbrev aL (x : Int64) : aV := .inr (.inl x)
abbrev aRf (r : Option Nat) : aV := .inr (.inr r)
def aj_v (v : aV) : Value := match v with
  | .inl x => .int x
  | .inr (.inl x) => .long x
  | .inr (.inr r) => va_rf r
def aj_two (v : aV) : Bool := match v with
  | .inr (.inl _) => true
  | _ => false
def aj_sz (v : aV) : Nat := match v with
  | .inr (.inl _) => 2
  | _ => 1
theorem va_rf_cat (r : Option Nat) : (va_rf r).category = 1 := by cases r <;> rfl
theorem aj_v_cat (v : aV) : (aj_v v).category = aj_sz v := by
  rcases v with x | x | r
  · rfl
  · rfl
  · exact va_rf_cat r
theorem aj_v_two (v : aV) : ((aj_v v).category == 2) = aj_two v := by
  rcases v with x | x | r
  · rfl
  · rfl
  · show ((va_rf r).category == 2) = false
    rw [va_rf_cat]
    rfl
def aj_lv (lv : List (Nat × aV)) : List (Nat × Value) := lv.map fun q => (q.1, aj_v q.2)
def aj_wd (st : List aV) : Nat := match st with
  | [] => 0
  | v :: t => aj_sz v + aj_wd t
theorem aj_wd_sum (st : List aV) : ((st.map aj_v).map fun v => v.category).sum = aj_wd st := by
  induction st with
  | nil => rfl
  | cons v t ih =>
    simp only [List.map_cons, List.sum_cons, aj_wd, aj_v_cat]
    rw [ih]
def aj_J (Γ : aj_G) (nL : Nat) (k : Nat × Nat) (pc : Nat) (lv : List (Nat × aV)) (st : List aV) (w : aw_W) : Prop :=
  ∀ (ls : Array Slot) (H : Heap) (locs : List Loc), lv_has ls nL (aj_lv lv) → aw_R (gD Γ) (gA Γ) w H → aw_In (gB Γ) w → va_S (fun q => gB Γ ≤ q) (gs Γ).heap H locs →
    W (gp Γ) (gl Γ) (ge Γ) (gR Γ) (gs Γ) (gm Γ) (ga Γ) (gb Γ) (gme Γ) (gc Γ) H locs k.1 k.2 (gQ Γ) (F0 (gm Γ) pc ls (st.map aj_v))
/-! locals by their numbers -/
def aj_get (lv : List (Nat × aV)) (i : Nat) : Option aV := match lv with
  | [] => none
  | q :: t => if q.1 = i then some q.2 else aj_get t i
def aj_st1 (lv : List (Nat × aV)) (i : Nat) (v : aV) : List (Nat × aV) := (i, v) :: lv.filter (fun q => !(q.1 == i) && !(q.1 + 1 == i && aj_two q.2))
def aj_st2 (lv : List (Nat × aV)) (i : Nat) (v : aV) : List (Nat × aV) := (i, v) :: lv.filter (fun q => !(q.1 == i) && (!(q.1 == i + 1) && !(q.1 + 1 == i && aj_two q.2)))
theorem aj_st1_lv (lv : List (Nat × aV)) (i : Nat) (v : aV) : (i, aj_v v) :: (aj_lv lv).filter (fun q => !(q.1 == i) && !(q.1 + 1 == i && q.2.category == 2)) = aj_lv (aj_st1 lv i v) := by
  simp only [aj_lv, aj_st1, List.map_cons, List.filter_map, Function.comp_def, aj_v_two]
theorem aj_st2_lv (lv : List (Nat × aV)) (i : Nat) (v : aV) : (i, aj_v v) :: (aj_lv lv).filter (fun q => !(q.1 == i) && (!(q.1 == i + 1) && !(q.1 + 1 == i && q.2.category == 2))) = aj_lv (aj_st2 lv i v) := by
  simp only [aj_lv, aj_st2, List.map_cons, List.filter_map, Function.comp_def, aj_v_two]
theorem aj_get_at {lv : List (Nat × aV)} {i : Nat} {v : aV} (h : aj_get lv i = some v) : ∃ k : Nat, (aj_lv lv)[k]? = some (i, aj_v v) := by
  induction lv with
  | nil => cases h
  | cons q t ih =>
    unfold aj_get at h
    by_cases hq : q.1 = i
    · rw [if_pos hq] at h
      refine ⟨0, ?_⟩
      cases h
      rw [← hq]
      rfl
    · rw [if_neg hq] at h
      obtain ⟨k, hk⟩ := ih h
      exact ⟨k + 1, hk⟩
theorem aj_get_has {ls : Array Slot} {nL : Nat} {lv : List (Nat × aV)} (h : lv_has ls nL (aj_lv lv)) {i : Nat} {v : aV} (hv : aj_get lv i = some v) : ls[i]? = some (.val (aj_v v)) := by
  obtain ⟨k, hk⟩ := aj_get_at hv
  exact lv_at h k hk
/-- fewer locals are known -/
theorem j_lv {Γ : aj_G} {nL : Nat} {k : Nat × Nat} {pc : Nat} {lv : List (Nat × aV)} (lv' : List (Nat × aV)) {st : List aV} {w : aw_W} (hs : lv'.map (fun q => aj_get lv q.1) = lv'.map (fun q => some q.2)) (h : aj_J Γ nL k pc lv' st w) : aj_J Γ nL k pc lv st w := by
  intro ls H locs h1 h2 h3 h4
  refine h ls H locs ⟨h1.1, h1.2.1, fun q hq => ?_⟩ h2 h3 h4
  obtain ⟨q', hq', rfl⟩ := List.mem_map.mp hq
  have h5 := List.map_inj_left.mp hs q' hq'
  exact aj_get_has h1 h5
/-- more room is counted -/
theorem j_wide {Γ : aj_G} {nL : Nat} {k : Nat × Nat} {pc : Nat} {lv : List (Nat × aV)} {st : List aV} {w : aw_W} (k' : Nat × Nat) (h1 : k.1 ≤ k'.1) (h2 : k.2 ≤ k'.2) (h : aj_J Γ nL k' pc lv st w) : aj_J Γ nL k pc lv st w :=
  fun ls H locs q1 q2 q3 q4 => W.widen h1 h2 (h ls H locs q1 q2 q3 q4)
def aj_args (i : Nat) (vs : List aV) : List (Nat × aV) := match vs with
  | [] => []
  | v :: t => (i, v) :: aj_args (i + aj_sz v) t
theorem aj_args_lv (vs : List aV) : ∀ i, lv_args i (vs.map aj_v) = aj_lv (aj_args i vs) := by
  induction vs with
  | nil => intro i; rfl
  | cons v t ih =>
    intro i
    simp only [List.map_cons, lv_args, aj_args, aj_lv, aj_v_cat]
    rcases v with x | x | r
    · exact congrArg _ (ih (i + 1))
    · exact congrArg _ (ih (i + 2))
    · exact congrArg _ (ih (i + 1))
theorem aj_sl_wd (vs : List aV) : (lg_sl (vs.map aj_v)).length = aj_wd vs := by
  induction vs with
  | nil => rfl
  | cons v t ih =>
    have h : (lg_sl ((v :: t).map aj_v)).length = (if (aj_v v).category = 2 then [Slot.val (aj_v v), .second] else [.val (aj_v v)]).length + (lg_sl (t.map aj_v)).length := by
      simp only [lg_sl, List.map_cons, List.flatMap_cons, List.length_append]
    rw [h, ih, aj_v_cat]
    rcases v with x | x | r <;> rfl
def aj_ushr (x y : Int32) : Int32 := (x.toUInt32 >>> (y.toUInt32 &&& Int32.toUInt32 31)).toInt32
def aj_lushr (x : Int64) (y : Int32) : Int64 := (x.toUInt64 >>> (y.toInt64.toUInt64 &&& Int64.toUInt64 63)).toInt64
def aj_lshl (x : Int64) (y : Int32) : Int64 := x <<< (y.toInt64 &&& 63)
def aj_lshr (x : Int64) (y : Int32) : Int64 := x >>> (y.toInt64 &&& 63)
end
section
theorem j_iconst {Γ : aj_G} {ym : MethodName} {cc : ByteArray} {nL : Nat} {ret : Option FieldType} {rm : Room} {k : Nat × Nat} {pc : Nat} {lv : List (Nat × aV)} {st : List aV} {w : aw_W} {n : Int} {v : Int32} (G : aj_ok Γ ym cc nL ret rm) (d : decode cc pc = .ok (.iconst n, 1)) (hv : Int32.ofInt n = v) (h : aj_J Γ nL k (pc + 1) (lv) (aI v :: st) w) : aj_J Γ nL k (pc) (lv) (st) w := fun ls H locs h1 h2 h3 h4 => lv_iconst G.1 G.2.1 d hv (h ls H locs h1 h2 h3 h4)
theorem j_bipush {Γ : aj_G} {ym : MethodName} {cc : ByteArray} {nL : Nat} {ret : Option FieldType} {rm : Room} {k : Nat × Nat} {pc : Nat} {lv : List (Nat × aV)} {st : List aV} {w : aw_W} {n : Int} {v : Int32} (G : aj_ok Γ ym cc nL ret rm) (d : decode cc pc = .ok (.bipush n, 2)) (hv : (Int8.ofInt n).toInt32 = v) (h : aj_J Γ nL k (pc + 2) (lv) (aI v :: st) w) : aj_J Γ nL k (pc) (lv) (st) w := fun ls H locs h1 h2 h3 h4 => lv_bipush G.1 G.2.1 d hv (h ls H locs h1 h2 h3 h4)
theorem j_sipush {Γ : aj_G} {ym : MethodName} {cc : ByteArray} {nL : Nat} {ret : Option FieldType} {rm : Room} {k : Nat × Nat} {pc : Nat} {lv : List (Nat × aV)} {st : List aV} {w : aw_W} {n : Int} {v : Int32} (G : aj_ok Γ ym cc nL ret rm) (d : decode cc pc = .ok (.sipush n, 3)) (hv : (Int16.ofInt n).toInt32 = v) (h : aj_J Γ nL k (pc + 3) (lv) (aI v :: st) w) : aj_J Γ nL k (pc) (lv) (st) w := fun ls H locs h1 h2 h3 h4 => lv_sipush G.1 G.2.1 d hv (h ls H locs h1 h2 h3 h4)
theorem j_lconst {Γ : aj_G} {ym : MethodName} {cc : ByteArray} {nL : Nat} {ret : Option FieldType} {rm : Room} {k : Nat × Nat} {pc : Nat} {lv : List (Nat × aV)} {st : List aV} {w : aw_W} {n : Fin 2} {v : Int64} (G : aj_ok Γ ym cc nL ret rm) (d : decode cc pc = .ok (.lconst n, 1)) (hv : Int64.ofNat (n : Nat) = v) (h : aj_J Γ nL k (pc + 1) (lv) (aL v :: st) w) : aj_J Γ nL k (pc) (lv) (st) w := fun ls H locs h1 h2 h3 h4 => lv_lconst G.1 G.2.1 d hv (h ls H locs h1 h2 h3 h4)
theorem j_null {Γ : aj_G} {ym : MethodName} {cc : ByteArray} {nL : Nat} {ret : Option FieldType} {rm : Room} {k : Nat × Nat} {pc : Nat} {lv : List (Nat × aV)} {st : List aV} {w : aw_W} (G : aj_ok Γ ym cc nL ret rm) (d : decode cc pc = .ok (.aconst_null, 1)) (h : aj_J Γ nL k (pc + 1) (lv) (aRf none :: st) w) : aj_J Γ nL k (pc) (lv) (st) w := fun ls H locs h1 h2 h3 h4 => lv_null G.1 G.2.1 d (h ls H locs h1 h2 h3 h4)
theorem j_ldc {Γ : aj_G} {ym : MethodName} {cc : ByteArray} {nL : Nat} {ret : Option FieldType} {rm : Room} {k : Nat × Nat} {pc : Nat} {lv : List (Nat × aV)} {st : List aV} {w : aw_W} {index : Nat} {v : Int32} (G : aj_ok Γ ym cc nL ret rm) (d : decode cc pc = .ok (.ldc index, 2)) (hw : Cond.constant ym.cls index v ∈ aw_ws) (h : aj_J Γ nL k (pc + 2) (lv) (aI v :: st) w) : aj_J Γ nL k (pc) (lv) (st) w := fun ls H locs h1 h2 h3 h4 => lv_ldc G.1 G.2.1 G.own (G.word hw) d (h ls H locs h1 h2 h3 h4)
theorem j_ldc2 {Γ : aj_G} {ym : MethodName} {cc : ByteArray} {nL : Nat} {ret : Option FieldType} {rm : Room} {k : Nat × Nat} {pc : Nat} {lv : List (Nat × aV)} {st : List aV} {w : aw_W} {index : Nat} {v : Int64} (G : aj_ok Γ ym cc nL ret rm) (d : decode cc pc = .ok (.ldc2_w index, 3)) (hw : Cond.constantLong ym.cls index v ∈ aw_ws) (h : aj_J Γ nL k (pc + 3) (lv) (aL v :: st) w) : aj_J Γ nL k (pc) (lv) (st) w := fun ls H locs h1 h2 h3 h4 => lv_ldc2 G.1 G.2.1 G.own (G.word hw) d (h ls H locs h1 h2 h3 h4)
theorem j_iload {Γ : aj_G} {ym : MethodName} {cc : ByteArray} {nL : Nat} {ret : Option FieldType} {rm : Room} {k : Nat × Nat} {pc : Nat} {lv : List (Nat × aV)} {st : List aV} {w : aw_W} {i : Nat} {x : Int32} (G : aj_ok Γ ym cc nL ret rm) (d : decode cc pc = .ok (.iload i, 2)) (hx : aj_get lv i = some (aI x)) (h : aj_J Γ nL k (pc + 2) (lv) (aI x :: st) w) : aj_J Γ nL k (pc) (lv) (st) w := fun ls H locs h1 h2 h3 h4 => lv_iload G.1 G.2.1 d (aj_get_has h1 hx) (h ls H locs h1 h2 h3 h4)
theorem j_iload_n {Γ : aj_G} {ym : MethodName} {cc : ByteArray} {nL : Nat} {ret : Option FieldType} {rm : Room} {k : Nat × Nat} {pc : Nat} {lv : List (Nat × aV)} {st : List aV} {w : aw_W} {i : Fin 4} {x : Int32} (G : aj_ok Γ ym cc nL ret rm) (d : decode cc pc = .ok (.iload_n i, 1)) (hx : aj_get lv i.val = some (aI x)) (h : aj_J Γ nL k (pc + 1) (lv) (aI x :: st) w) : aj_J Γ nL k (pc) (lv) (st) w := fun ls H locs h1 h2 h3 h4 => lv_iload_n G.1 G.2.1 d rfl (aj_get_has h1 hx) (h ls H locs h1 h2 h3 h4)
theorem j_lload {Γ : aj_G} {ym : MethodName} {cc : ByteArray} {nL : Nat} {ret : Option FieldType} {rm : Room} {k : Nat × Nat} {pc : Nat} {lv : List (Nat × aV)} {st : List aV} {w : aw_W} {i : Nat} {x : Int64} (G : aj_ok Γ ym cc nL ret rm) (d : decode cc pc = .ok (.lload i, 2)) (hx : aj_get lv i = some (aL x)) (h : aj_J Γ nL k (pc + 2) (lv) (aL x :: st) w) : aj_J Γ nL k (pc) (lv) (st) w := fun ls H locs h1 h2 h3 h4 => lv_lload G.1 G.2.1 d (aj_get_has h1 hx) (h ls H locs h1 h2 h3 h4)
theorem j_lload_n {Γ : aj_G} {ym : MethodName} {cc : ByteArray} {nL : Nat} {ret : Option FieldType} {rm : Room} {k : Nat × Nat} {pc : Nat} {lv : List (Nat × aV)} {st : List aV} {w : aw_W} {i : Fin 4} {x : Int64} (G : aj_ok Γ ym cc nL ret rm) (d : decode cc pc = .ok (.lload_n i, 1)) (hx : aj_get lv i.val = some (aL x)) (h : aj_J Γ nL k (pc + 1) (lv) (aL x :: st) w) : aj_J Γ nL k (pc) (lv) (st) w := fun ls H locs h1 h2 h3 h4 => lv_lload_n G.1 G.2.1 d rfl (aj_get_has h1 hx) (h ls H locs h1 h2 h3 h4)
theorem j_aload {Γ : aj_G} {ym : MethodName} {cc : ByteArray} {nL : Nat} {ret : Option FieldType} {rm : Room} {k : Nat × Nat} {pc : Nat} {lv : List (Nat × aV)} {st : List aV} {w : aw_W} {i : Nat} {r : Option Nat} (G : aj_ok Γ ym cc nL ret rm) (d : decode cc pc = .ok (.aload i, 2)) (hx : aj_get lv i = some (aRf r)) (h : aj_J Γ nL k (pc + 2) (lv) (aRf r :: st) w) : aj_J Γ nL k (pc) (lv) (st) w := by
  intro ls H locs h1 h2 h3 h4
  have hg := aj_get_has h1 hx
  have hh := h ls H locs h1 h2 h3 h4
  cases r with
  | none => exact lv_aloadN G.1 G.2.1 d hg hh
  | some a => exact lv_aload G.1 G.2.1 d hg hh
theorem j_aload_n {Γ : aj_G} {ym : MethodName} {cc : ByteArray} {nL : Nat} {ret : Option FieldType} {rm : Room} {k : Nat × Nat} {pc : Nat} {lv : List (Nat × aV)} {st : List aV} {w : aw_W} {i : Fin 4} {r : Option Nat} (G : aj_ok Γ ym cc nL ret rm) (d : decode cc pc = .ok (.aload_n i, 1)) (hx : aj_get lv i.val = some (aRf r)) (h : aj_J Γ nL k (pc + 1) (lv) (aRf r :: st) w) : aj_J Γ nL k (pc) (lv) (st) w := by
  intro ls H locs h1 h2 h3 h4
  have hg := aj_get_has h1 hx
  have hh := h ls H locs h1 h2 h3 h4
  cases r with
  | none => exact lv_aload_nN G.1 G.2.1 d rfl hg hh
  | some a => exact lv_aload_n G.1 G.2.1 d rfl hg hh
theorem j_istore {Γ : aj_G} {ym : MethodName} {cc : ByteArray} {nL : Nat} {ret : Option FieldType} {rm : Room} {k : Nat × Nat} {pc : Nat} {lv : List (Nat × aV)} {st : List aV} {w : aw_W} {i : Nat} {x : Int32} (G : aj_ok Γ ym cc nL ret rm) (d : decode cc pc = .ok (.istore i, 2)) (hn : i < nL) (h : aj_J Γ nL k (pc + 2) (aj_st1 lv i (aI x)) (st) w) : aj_J Γ nL k (pc) (lv) (aI x :: st) w := fun ls H locs h1 h2 h3 h4 => lv_istore G.1 G.2.1 d h1 hn (aj_st1_lv lv i (aI x)) (fun ls' h1' => h ls' H locs h1' h2 h3 h4)
theorem j_istore_n {Γ : aj_G} {ym : MethodName} {cc : ByteArray} {nL : Nat} {ret : Option FieldType} {rm : Room} {k : Nat × Nat} {pc : Nat} {lv : List (Nat × aV)} {st : List aV} {w : aw_W} {i : Fin 4} {x : Int32} (G : aj_ok Γ ym cc nL ret rm) (d : decode cc pc = .ok (.istore_n i, 1)) (hn : i.val < nL) (h : aj_J Γ nL k (pc + 1) (aj_st1 lv i.val (aI x)) (st) w) : aj_J Γ nL k (pc) (lv) (aI x :: st) w := fun ls H locs h1 h2 h3 h4 => lv_istore_n G.1 G.2.1 d rfl h1 hn (aj_st1_lv lv i.val (aI x)) (fun ls' h1' => h ls' H locs h1' h2 h3 h4)
theorem j_lstore {Γ : aj_G} {ym : MethodName} {cc : ByteArray} {nL : Nat} {ret : Option FieldType} {rm : Room} {k : Nat × Nat} {pc : Nat} {lv : List (Nat × aV)} {st : List aV} {w : aw_W} {i : Nat} {x : Int64} (G : aj_ok Γ ym cc nL ret rm) (d : decode cc pc = .ok (.lstore i, 2)) (hn : i + 1 < nL) (h : aj_J Γ nL k (pc + 2) (aj_st2 lv i (aL x)) (st) w) : aj_J Γ nL k (pc) (lv) (aL x :: st) w := fun ls H locs h1 h2 h3 h4 => lv_lstore G.1 G.2.1 d h1 hn (aj_st2_lv lv i (aL x)) (fun ls' h1' => h ls' H locs h1' h2 h3 h4)
theorem j_lstore_n {Γ : aj_G} {ym : MethodName} {cc : ByteArray} {nL : Nat} {ret : Option FieldType} {rm : Room} {k : Nat × Nat} {pc : Nat} {lv : List (Nat × aV)} {st : List aV} {w : aw_W} {i : Fin 4} {x : Int64} (G : aj_ok Γ ym cc nL ret rm) (d : decode cc pc = .ok (.lstore_n i, 1)) (hn : i.val + 1 < nL) (h : aj_J Γ nL k (pc + 1) (aj_st2 lv i.val (aL x)) (st) w) : aj_J Γ nL k (pc) (lv) (aL x :: st) w := fun ls H locs h1 h2 h3 h4 => lv_lstore_n G.1 G.2.1 d rfl h1 hn (aj_st2_lv lv i.val (aL x)) (fun ls' h1' => h ls' H locs h1' h2 h3 h4)
theorem j_astore {Γ : aj_G} {ym : MethodName} {cc : ByteArray} {nL : Nat} {ret : Option FieldType} {rm : Room} {k : Nat × Nat} {pc : Nat} {lv : List (Nat × aV)} {st : List aV} {w : aw_W} {i : Nat} {r : Option Nat} (G : aj_ok Γ ym cc nL ret rm) (d : decode cc pc = .ok (.astore i, 2)) (hn : i < nL) (h : aj_J Γ nL k (pc + 2) (aj_st1 lv i (aRf r)) (st) w) : aj_J Γ nL k (pc) (lv) (aRf r :: st) w := by
  intro ls H locs h1 h2 h3 h4
  cases r with
  | none => exact lv_astoreN G.1 G.2.1 d h1 hn (aj_st1_lv lv i (aRf none)) (fun ls' h1' => h ls' H locs h1' h2 h3 h4)
  | some a => exact lv_astore G.1 G.2.1 d h1 hn (aj_st1_lv lv i (aRf (some a))) (fun ls' h1' => h ls' H locs h1' h2 h3 h4)
theorem j_astore_n {Γ : aj_G} {ym : MethodName} {cc : ByteArray} {nL : Nat} {ret : Option FieldType} {rm : Room} {k : Nat × Nat} {pc : Nat} {lv : List (Nat × aV)} {st : List aV} {w : aw_W} {i : Fin 4} {r : Option Nat} (G : aj_ok Γ ym cc nL ret rm) (d : decode cc pc = .ok (.astore_n i, 1)) (hn : i.val < nL) (h : aj_J Γ nL k (pc + 1) (aj_st1 lv i.val (aRf r)) (st) w) : aj_J Γ nL k (pc) (lv) (aRf r :: st) w := by
  intro ls H locs h1 h2 h3 h4
  cases r with
  | none => exact lv_astore_nN G.1 G.2.1 d rfl h1 hn (aj_st1_lv lv i.val (aRf none)) (fun ls' h1' => h ls' H locs h1' h2 h3 h4)
  | some a => exact lv_astore_n G.1 G.2.1 d rfl h1 hn (aj_st1_lv lv i.val (aRf (some a))) (fun ls' h1' => h ls' H locs h1' h2 h3 h4)
theorem j_iinc {Γ : aj_G} {ym : MethodName} {cc : ByteArray} {nL : Nat} {ret : Option FieldType} {rm : Room} {k : Nat × Nat} {pc : Nat} {lv : List (Nat × aV)} {st : List aV} {w : aw_W} {i : Nat} {n : Int} {x v : Int32} (G : aj_ok Γ ym cc nL ret rm) (d : decode cc pc = .ok (.iinc i n, 3)) (hx : aj_get lv i = some (aI x)) (hv : x + Int32.ofInt n = v) (hn : i < nL) (h : aj_J Γ nL k (pc + 3) (aj_st1 lv i (aI v)) (st) w) : aj_J Γ nL k (pc) (lv) (st) w := by
  intro ls H locs h1 h2 h3 h4
  obtain ⟨j, hj⟩ := aj_get_at hx
  exact lv_iinc G.1 G.2.1 d h1 hj hv hn (aj_st1_lv lv i (aI v)) (fun ls' h1' => h ls' H locs h1' h2 h3 h4)
theorem j_iadd {Γ : aj_G} {ym : MethodName} {cc : ByteArray} {nL : Nat} {ret : Option FieldType} {rm : Room} {k : Nat × Nat} {pc : Nat} {lv : List (Nat × aV)} {st : List aV} {w : aw_W} {x y : Int32} (G : aj_ok Γ ym cc nL ret rm) (d : decode cc pc = .ok (.iadd, 1))  (h : aj_J Γ nL k (pc + 1) (lv) (aI (x + y) :: st) w) : aj_J Γ nL k (pc) (lv) (aI y :: aI x :: st) w := fun ls H locs h1 h2 h3 h4 => lv_iadd G.1 G.2.1 d  (h ls H locs h1 h2 h3 h4)
theorem j_isub {Γ : aj_G} {ym : MethodName} {cc : ByteArray} {nL : Nat} {ret : Option FieldType} {rm : Room} {k : Nat × Nat} {pc : Nat} {lv : List (Nat × aV)} {st : List aV} {w : aw_W} {x y : Int32} (G : aj_ok Γ ym cc nL ret rm) (d : decode cc pc = .ok (.isub, 1))  (h : aj_J Γ nL k (pc + 1) (lv) (aI (x - y) :: st) w) : aj_J Γ nL k (pc) (lv) (aI y :: aI x :: st) w := fun ls H locs h1 h2 h3 h4 => lv_isub G.1 G.2.1 d  (h ls H locs h1 h2 h3 h4)
theorem j_imul {Γ : aj_G} {ym : MethodName} {cc : ByteArray} {nL : Nat} {ret : Option FieldType} {rm : Room} {k : Nat × Nat} {pc : Nat} {lv : List (Nat × aV)} {st : List aV} {w : aw_W} {x y : Int32} (G : aj_ok Γ ym cc nL ret rm) (d : decode cc pc = .ok (.imul, 1))  (h : aj_J Γ nL k (pc + 1) (lv) (aI (x * y) :: st) w) : aj_J Γ nL k (pc) (lv) (aI y :: aI x :: st) w := fun ls H locs h1 h2 h3 h4 => lv_imul G.1 G.2.1 d  (h ls H locs h1 h2 h3 h4)
theorem j_iand {Γ : aj_G} {ym : MethodName} {cc : ByteArray} {nL : Nat} {ret : Option FieldType} {rm : Room} {k : Nat × Nat} {pc : Nat} {lv : List (Nat × aV)} {st : List aV} {w : aw_W} {x y : Int32} (G : aj_ok Γ ym cc nL ret rm) (d : decode cc pc = .ok (.iand, 1))  (h : aj_J Γ nL k (pc + 1) (lv) (aI (x &&& y) :: st) w) : aj_J Γ nL k (pc) (lv) (aI y :: aI x :: st) w := fun ls H locs h1 h2 h3 h4 => lv_iand G.1 G.2.1 d  (h ls H locs h1 h2 h3 h4)
theorem j_ior {Γ : aj_G} {ym : MethodName} {cc : ByteArray} {nL : Nat} {ret : Option FieldType} {rm : Room} {k : Nat × Nat} {pc : Nat} {lv : List (Nat × aV)} {st : List aV} {w : aw_W} {x y : Int32} (G : aj_ok Γ ym cc nL ret rm) (d : decode cc pc = .ok (.ior, 1))  (h : aj_J Γ nL k (pc + 1) (lv) (aI (x ||| y) :: st) w) : aj_J Γ nL k (pc) (lv) (aI y :: aI x :: st) w := fun ls H locs h1 h2 h3 h4 => lv_ior G.1 G.2.1 d  (h ls H locs h1 h2 h3 h4)
theorem j_ixor {Γ : aj_G} {ym : MethodName} {cc : ByteArray} {nL : Nat} {ret : Option FieldType} {rm : Room} {k : Nat × Nat} {pc : Nat} {lv : List (Nat × aV)} {st : List aV} {w : aw_W} {x y : Int32} (G : aj_ok Γ ym cc nL ret rm) (d : decode cc pc = .ok (.ixor, 1))  (h : aj_J Γ nL k (pc + 1) (lv) (aI (x ^^^ y) :: st) w) : aj_J Γ nL k (pc) (lv) (aI y :: aI x :: st) w := fun ls H locs h1 h2 h3 h4 => lv_ixor G.1 G.2.1 d  (h ls H locs h1 h2 h3 h4)
theorem j_ishl {Γ : aj_G} {ym : MethodName} {cc : ByteArray} {nL : Nat} {ret : Option FieldType} {rm : Room} {k : Nat × Nat} {pc : Nat} {lv : List (Nat × aV)} {st : List aV} {w : aw_W} {x y : Int32} (G : aj_ok Γ ym cc nL ret rm) (d : decode cc pc = .ok (.ishl, 1))  (h : aj_J Γ nL k (pc + 1) (lv) (aI (x <<< (y &&& 31)) :: st) w) : aj_J Γ nL k (pc) (lv) (aI y :: aI x :: st) w := fun ls H locs h1 h2 h3 h4 => lv_ishl G.1 G.2.1 d  (h ls H locs h1 h2 h3 h4)
theorem j_ishr {Γ : aj_G} {ym : MethodName} {cc : ByteArray} {nL : Nat} {ret : Option FieldType} {rm : Room} {k : Nat × Nat} {pc : Nat} {lv : List (Nat × aV)} {st : List aV} {w : aw_W} {x y : Int32} (G : aj_ok Γ ym cc nL ret rm) (d : decode cc pc = .ok (.ishr, 1))  (h : aj_J Γ nL k (pc + 1) (lv) (aI (x >>> (y &&& 31)) :: st) w) : aj_J Γ nL k (pc) (lv) (aI y :: aI x :: st) w := fun ls H locs h1 h2 h3 h4 => lv_ishr G.1 G.2.1 d  (h ls H locs h1 h2 h3 h4)
theorem j_idiv {Γ : aj_G} {ym : MethodName} {cc : ByteArray} {nL : Nat} {ret : Option FieldType} {rm : Room} {k : Nat × Nat} {pc : Nat} {lv : List (Nat × aV)} {st : List aV} {w : aw_W} {x y : Int32} (G : aj_ok Γ ym cc nL ret rm) (d : decode cc pc = .ok (.idiv, 1)) (hne : ¬ y = 0) (h : aj_J Γ nL k (pc + 1) (lv) (aI (x / y) :: st) w) : aj_J Γ nL k (pc) (lv) (aI y :: aI x :: st) w := fun ls H locs h1 h2 h3 h4 => lv_idiv G.1 G.2.1 d hne (h ls H locs h1 h2 h3 h4)
theorem j_irem {Γ : aj_G} {ym : MethodName} {cc : ByteArray} {nL : Nat} {ret : Option FieldType} {rm : Room} {k : Nat × Nat} {pc : Nat} {lv : List (Nat × aV)} {st : List aV} {w : aw_W} {x y : Int32} (G : aj_ok Γ ym cc nL ret rm) (d : decode cc pc = .ok (.irem, 1)) (hne : ¬ y = 0) (h : aj_J Γ nL k (pc + 1) (lv) (aI (x - x / y * y) :: st) w) : aj_J Γ nL k (pc) (lv) (aI y :: aI x :: st) w := fun ls H locs h1 h2 h3 h4 => lv_irem G.1 G.2.1 d hne (h ls H locs h1 h2 h3 h4)
theorem j_ladd {Γ : aj_G} {ym : MethodName} {cc : ByteArray} {nL : Nat} {ret : Option FieldType} {rm : Room} {k : Nat × Nat} {pc : Nat} {lv : List (Nat × aV)} {st : List aV} {w : aw_W} {x y : Int64} (G : aj_ok Γ ym cc nL ret rm) (d : decode cc pc = .ok (.ladd, 1))  (h : aj_J Γ nL k (pc + 1) (lv) (aL (x + y) :: st) w) : aj_J Γ nL k (pc) (lv) (aL y :: aL x :: st) w := fun ls H locs h1 h2 h3 h4 => lv_ladd G.1 G.2.1 d  (h ls H locs h1 h2 h3 h4)
theorem j_lsub {Γ : aj_G} {ym : MethodName} {cc : ByteArray} {nL : Nat} {ret : Option FieldType} {rm : Room} {k : Nat × Nat} {pc : Nat} {lv : List (Nat × aV)} {st : List aV} {w : aw_W} {x y : Int64} (G : aj_ok Γ ym cc nL ret rm) (d : decode cc pc = .ok (.lsub, 1))  (h : aj_J Γ nL k (pc + 1) (lv) (aL (x - y) :: st) w) : aj_J Γ nL k (pc) (lv) (aL y :: aL x :: st) w := fun ls H locs h1 h2 h3 h4 => lv_lsub G.1 G.2.1 d  (h ls H locs h1 h2 h3 h4)
theorem j_lmul {Γ : aj_G} {ym : MethodName} {cc : ByteArray} {nL : Nat} {ret : Option FieldType} {rm : Room} {k : Nat × Nat} {pc : Nat} {lv : List (Nat × aV)} {st : List aV} {w : aw_W} {x y : Int64} (G : aj_ok Γ ym cc nL ret rm) (d : decode cc pc = .ok (.lmul, 1))  (h : aj_J Γ nL k (pc + 1) (lv) (aL (x * y) :: st) w) : aj_J Γ nL k (pc) (lv) (aL y :: aL x :: st) w := fun ls H locs h1 h2 h3 h4 => lv_lmul G.1 G.2.1 d  (h ls H locs h1 h2 h3 h4)
theorem j_land {Γ : aj_G} {ym : MethodName} {cc : ByteArray} {nL : Nat} {ret : Option FieldType} {rm : Room} {k : Nat × Nat} {pc : Nat} {lv : List (Nat × aV)} {st : List aV} {w : aw_W} {x y : Int64} (G : aj_ok Γ ym cc nL ret rm) (d : decode cc pc = .ok (.land, 1))  (h : aj_J Γ nL k (pc + 1) (lv) (aL (x &&& y) :: st) w) : aj_J Γ nL k (pc) (lv) (aL y :: aL x :: st) w := fun ls H locs h1 h2 h3 h4 => lv_land G.1 G.2.1 d  (h ls H locs h1 h2 h3 h4)
theorem j_lor {Γ : aj_G} {ym : MethodName} {cc : ByteArray} {nL : Nat} {ret : Option FieldType} {rm : Room} {k : Nat × Nat} {pc : Nat} {lv : List (Nat × aV)} {st : List aV} {w : aw_W} {x y : Int64} (G : aj_ok Γ ym cc nL ret rm) (d : decode cc pc = .ok (.lor, 1))  (h : aj_J Γ nL k (pc + 1) (lv) (aL (x ||| y) :: st) w) : aj_J Γ nL k (pc) (lv) (aL y :: aL x :: st) w := fun ls H locs h1 h2 h3 h4 => lv_lor G.1 G.2.1 d  (h ls H locs h1 h2 h3 h4)
theorem j_lxor {Γ : aj_G} {ym : MethodName} {cc : ByteArray} {nL : Nat} {ret : Option FieldType} {rm : Room} {k : Nat × Nat} {pc : Nat} {lv : List (Nat × aV)} {st : List aV} {w : aw_W} {x y : Int64} (G : aj_ok Γ ym cc nL ret rm) (d : decode cc pc = .ok (.lxor, 1))  (h : aj_J Γ nL k (pc + 1) (lv) (aL (x ^^^ y) :: st) w) : aj_J Γ nL k (pc) (lv) (aL y :: aL x :: st) w := fun ls H locs h1 h2 h3 h4 => lv_lxor G.1 G.2.1 d  (h ls H locs h1 h2 h3 h4)
theorem j_ineg {Γ : aj_G} {ym : MethodName} {cc : ByteArray} {nL : Nat} {ret : Option FieldType} {rm : Room} {k : Nat × Nat} {pc : Nat} {lv : List (Nat × aV)} {st : List aV} {w : aw_W} {x : Int32} (G : aj_ok Γ ym cc nL ret rm) (d : decode cc pc = .ok (.ineg, 1))  (h : aj_J Γ nL k (pc + 1) (lv) (aI (-x) :: st) w) : aj_J Γ nL k (pc) (lv) (aI x :: st) w := fun ls H locs h1 h2 h3 h4 => lv_ineg G.1 G.2.1 d  (h ls H locs h1 h2 h3 h4)
theorem j_iushr {Γ : aj_G} {ym : MethodName} {cc : ByteArray} {nL : Nat} {ret : Option FieldType} {rm : Room} {k : Nat × Nat} {pc : Nat} {lv : List (Nat × aV)} {st : List aV} {w : aw_W} {x y : Int32} (G : aj_ok Γ ym cc nL ret rm) (d : decode cc pc = .ok (.iushr, 1))  (h : aj_J Γ nL k (pc + 1) (lv) (aI (aj_ushr x y) :: st) w) : aj_J Γ nL k (pc) (lv) (aI y :: aI x :: st) w := fun ls H locs h1 h2 h3 h4 => lv_iushr G.1 G.2.1 d rfl (h ls H locs h1 h2 h3 h4)
theorem j_lushr {Γ : aj_G} {ym : MethodName} {cc : ByteArray} {nL : Nat} {ret : Option FieldType} {rm : Room} {k : Nat × Nat} {pc : Nat} {lv : List (Nat × aV)} {st : List aV} {w : aw_W} {x : Int64} {y : Int32} (G : aj_ok Γ ym cc nL ret rm) (d : decode cc pc = .ok (.lushr, 1))  (h : aj_J Γ nL k (pc + 1) (lv) (aL (aj_lushr x y) :: st) w) : aj_J Γ nL k (pc) (lv) (aI y :: aL x :: st) w := fun ls H locs h1 h2 h3 h4 => lv_lushr G.1 G.2.1 d rfl (h ls H locs h1 h2 h3 h4)
theorem j_lshl {Γ : aj_G} {ym : MethodName} {cc : ByteArray} {nL : Nat} {ret : Option FieldType} {rm : Room} {k : Nat × Nat} {pc : Nat} {lv : List (Nat × aV)} {st : List aV} {w : aw_W} {x : Int64} {y : Int32} (G : aj_ok Γ ym cc nL ret rm) (d : decode cc pc = .ok (.lshl, 1))  (h : aj_J Γ nL k (pc + 1) (lv) (aL (aj_lshl x y) :: st) w) : aj_J Γ nL k (pc) (lv) (aI y :: aL x :: st) w := fun ls H locs h1 h2 h3 h4 => lv_lshl G.1 G.2.1 d rfl (h ls H locs h1 h2 h3 h4)
theorem j_lshr {Γ : aj_G} {ym : MethodName} {cc : ByteArray} {nL : Nat} {ret : Option FieldType} {rm : Room} {k : Nat × Nat} {pc : Nat} {lv : List (Nat × aV)} {st : List aV} {w : aw_W} {x : Int64} {y : Int32} (G : aj_ok Γ ym cc nL ret rm) (d : decode cc pc = .ok (.lshr, 1))  (h : aj_J Γ nL k (pc + 1) (lv) (aL (aj_lshr x y) :: st) w) : aj_J Γ nL k (pc) (lv) (aI y :: aL x :: st) w := fun ls H locs h1 h2 h3 h4 => lv_lshr G.1 G.2.1 d rfl (h ls H locs h1 h2 h3 h4)
theorem j_i2l {Γ : aj_G} {ym : MethodName} {cc : ByteArray} {nL : Nat} {ret : Option FieldType} {rm : Room} {k : Nat × Nat} {pc : Nat} {lv : List (Nat × aV)} {st : List aV} {w : aw_W} {x : Int32} (G : aj_ok Γ ym cc nL ret rm) (d : decode cc pc = .ok (.i2l, 1))  (h : aj_J Γ nL k (pc + 1) (lv) (aL x.toInt64 :: st) w) : aj_J Γ nL k (pc) (lv) (aI x :: st) w := fun ls H locs h1 h2 h3 h4 => lv_i2l G.1 G.2.1 d rfl (h ls H locs h1 h2 h3 h4)
theorem j_l2i {Γ : aj_G} {ym : MethodName} {cc : ByteArray} {nL : Nat} {ret : Option FieldType} {rm : Room} {k : Nat × Nat} {pc : Nat} {lv : List (Nat × aV)} {st : List aV} {w : aw_W} {x : Int64} (G : aj_ok Γ ym cc nL ret rm) (d : decode cc pc = .ok (.l2i, 1))  (h : aj_J Γ nL k (pc + 1) (lv) (aI x.toInt32 :: st) w) : aj_J Γ nL k (pc) (lv) (aL x :: st) w := fun ls H locs h1 h2 h3 h4 => lv_l2i G.1 G.2.1 d rfl (h ls H locs h1 h2 h3 h4)
theorem j_i2b {Γ : aj_G} {ym : MethodName} {cc : ByteArray} {nL : Nat} {ret : Option FieldType} {rm : Room} {k : Nat × Nat} {pc : Nat} {lv : List (Nat × aV)} {st : List aV} {w : aw_W} {x : Int32} (G : aj_ok Γ ym cc nL ret rm) (d : decode cc pc = .ok (.i2b, 1))  (h : aj_J Γ nL k (pc + 1) (lv) (aI x.toInt8.toInt32 :: st) w) : aj_J Γ nL k (pc) (lv) (aI x :: st) w := fun ls H locs h1 h2 h3 h4 => lv_i2b G.1 G.2.1 d rfl (h ls H locs h1 h2 h3 h4)
theorem j_lcmp {Γ : aj_G} {ym : MethodName} {cc : ByteArray} {nL : Nat} {ret : Option FieldType} {rm : Room} {k : Nat × Nat} {pc : Nat} {lv : List (Nat × aV)} {st : List aV} {w : aw_W} {x y : Int64} (G : aj_ok Γ ym cc nL ret rm) (d : decode cc pc = .ok (.lcmp, 1)) (h : aj_J Γ nL k (pc + 1) (lv) (aI (lg_cmp x y) :: st) w) : aj_J Γ nL k (pc) (lv) (aL y :: aL x :: st) w := fun ls H locs h1 h2 h3 h4 => W.lcmp G.1 G.2.1 d (h ls H locs h1 h2 h3 h4)
theorem j_dup {Γ : aj_G} {ym : MethodName} {cc : ByteArray} {nL : Nat} {ret : Option FieldType} {rm : Room} {k : Nat × Nat} {pc : Nat} {lv : List (Nat × aV)} {st : List aV} {w : aw_W} {va : aV} (G : aj_ok Γ ym cc nL ret rm) (d : decode cc pc = .ok (.dup, 1)) (hva : aj_sz va = 1) (h : aj_J Γ nL k (pc + 1) (lv) (va :: va :: st) w) : aj_J Γ nL k (pc) (lv) (va :: st) w := fun ls H locs h1 h2 h3 h4 => lv_dup G.1 G.2.1 d ((aj_v_cat _).trans hva) (h ls H locs h1 h2 h3 h4)
theorem j_pop {Γ : aj_G} {ym : MethodName} {cc : ByteArray} {nL : Nat} {ret : Option FieldType} {rm : Room} {k : Nat × Nat} {pc : Nat} {lv : List (Nat × aV)} {st : List aV} {w : aw_W} {va : aV} (G : aj_ok Γ ym cc nL ret rm) (d : decode cc pc = .ok (.pop, 1)) (hva : aj_sz va = 1) (h : aj_J Γ nL k (pc + 1) (lv) (st) w) : aj_J Γ nL k (pc) (lv) (va :: st) w := fun ls H locs h1 h2 h3 h4 => lv_pop G.1 G.2.1 d ((aj_v_cat _).trans hva) (h ls H locs h1 h2 h3 h4)
theorem j_dup_x1 {Γ : aj_G} {ym : MethodName} {cc : ByteArray} {nL : Nat} {ret : Option FieldType} {rm : Room} {k : Nat × Nat} {pc : Nat} {lv : List (Nat × aV)} {st : List aV} {w : aw_W} {va vb : aV} (G : aj_ok Γ ym cc nL ret rm) (d : decode cc pc = .ok (.dup_x1, 1)) (hva : aj_sz va = 1) (hvb : aj_sz vb = 1) (h : aj_J Γ nL k (pc + 1) (lv) (va :: vb :: va :: st) w) : aj_J Γ nL k (pc) (lv) (va :: vb :: st) w := fun ls H locs h1 h2 h3 h4 => lv_dup_x1 G.1 G.2.1 d ((aj_v_cat _).trans hva) ((aj_v_cat _).trans hvb) (h ls H locs h1 h2 h3 h4)
theorem j_dup_x2 {Γ : aj_G} {ym : MethodName} {cc : ByteArray} {nL : Nat} {ret : Option FieldType} {rm : Room} {k : Nat × Nat} {pc : Nat} {lv : List (Nat × aV)} {st : List aV} {w : aw_W} {va vb vd : aV} (G : aj_ok Γ ym cc nL ret rm) (d : decode cc pc = .ok (.dup_x2, 1)) (hva : aj_sz va = 1) (hvb : aj_sz vb = 1) (hvd : aj_sz vd = 1) (h : aj_J Γ nL k (pc + 1) (lv) (va :: vb :: vd :: va :: st) w) : aj_J Γ nL k (pc) (lv) (va :: vb :: vd :: st) w := fun ls H locs h1 h2 h3 h4 => lv_dup_x2 G.1 G.2.1 d ((aj_v_cat _).trans hva) ((aj_v_cat _).trans hvb) ((aj_v_cat _).trans hvd) (h ls H locs h1 h2 h3 h4)
theorem j_dup2_11 {Γ : aj_G} {ym : MethodName} {cc : ByteArray} {nL : Nat} {ret : Option FieldType} {rm : Room} {k : Nat × Nat} {pc : Nat} {lv : List (Nat × aV)} {st : List aV} {w : aw_W} {va vb : aV} (G : aj_ok Γ ym cc nL ret rm) (d : decode cc pc = .ok (.dup2, 1)) (hva : aj_sz va = 1) (hvb : aj_sz vb = 1) (h : aj_J Γ nL k (pc + 1) (lv) (va :: vb :: va :: vb :: st) w) : aj_J Γ nL k (pc) (lv) (va :: vb :: st) w := fun ls H locs h1 h2 h3 h4 => lv_dup2_11 G.1 G.2.1 d ((aj_v_cat _).trans hva) ((aj_v_cat _).trans hvb) (h ls H locs h1 h2 h3 h4)
theorem j_dup2_2 {Γ : aj_G} {ym : MethodName} {cc : ByteArray} {nL : Nat} {ret : Option FieldType} {rm : Room} {k : Nat × Nat} {pc : Nat} {lv : List (Nat × aV)} {st : List aV} {w : aw_W} {va : aV} (G : aj_ok Γ ym cc nL ret rm) (d : decode cc pc = .ok (.dup2, 1)) (hva : aj_sz va = 2) (h : aj_J Γ nL k (pc + 1) (lv) (va :: va :: st) w) : aj_J Γ nL k (pc) (lv) (va :: st) w := fun ls H locs h1 h2 h3 h4 => lv_dup2_2 G.1 G.2.1 d ((aj_v_cat _).trans hva) (h ls H locs h1 h2 h3 h4)
theorem j_pop2_2 {Γ : aj_G} {ym : MethodName} {cc : ByteArray} {nL : Nat} {ret : Option FieldType} {rm : Room} {k : Nat × Nat} {pc : Nat} {lv : List (Nat × aV)} {st : List aV} {w : aw_W} {va : aV} (G : aj_ok Γ ym cc nL ret rm) (d : decode cc pc = .ok (.pop2, 1)) (hva : aj_sz va = 2) (h : aj_J Γ nL k (pc + 1) (lv) (st) w) : aj_J Γ nL k (pc) (lv) (va :: st) w := fun ls H locs h1 h2 h3 h4 => lv_pop2_2 G.1 G.2.1 d ((aj_v_cat _).trans hva) (h ls H locs h1 h2 h3 h4)
theorem j_if_eq {Γ : aj_G} {ym : MethodName} {cc : ByteArray} {nL : Nat} {ret : Option FieldType} {rm : Room} {k : Nat × Nat} {pc : Nat} {lv : List (Nat × aV)} {st : List aV} {w : aw_W} {x : Int32} {off : Int} {tgt : Nat} (G : aj_ok Γ ym cc nL ret rm) (d : decode cc pc = .ok (.ifCond .eq off, 3)) (ht : (pc : Int) + off = (tgt : Int)) (kt : x = 0 → aj_J Γ nL k (tgt) (lv) (st) w) (kf : ¬ x = 0 → aj_J Γ nL k (pc + 3) (lv) (st) w) : aj_J Γ nL k (pc) (lv) (aI x :: st) w := fun ls H locs h1 h2 h3 h4 => lv_if_eq G.1 G.2.1 d ht (fun q => kt q ls H locs h1 h2 h3 h4) (fun q => kf q ls H locs h1 h2 h3 h4)
theorem j_if_lt {Γ : aj_G} {ym : MethodName} {cc : ByteArray} {nL : Nat} {ret : Option FieldType} {rm : Room} {k : Nat × Nat} {pc : Nat} {lv : List (Nat × aV)} {st : List aV} {w : aw_W} {x : Int32} {off : Int} {tgt : Nat} (G : aj_ok Γ ym cc nL ret rm) (d : decode cc pc = .ok (.ifCond .lt off, 3)) (ht : (pc : Int) + off = (tgt : Int)) (kt : x < 0 → aj_J Γ nL k (tgt) (lv) (st) w) (kf : ¬ x < 0 → aj_J Γ nL k (pc + 3) (lv) (st) w) : aj_J Γ nL k (pc) (lv) (aI x :: st) w := fun ls H locs h1 h2 h3 h4 => lv_if_lt G.1 G.2.1 d ht (fun q => kt q ls H locs h1 h2 h3 h4) (fun q => kf q ls H locs h1 h2 h3 h4)
theorem j_if_ge {Γ : aj_G} {ym : MethodName} {cc : ByteArray} {nL : Nat} {ret : Option FieldType} {rm : Room} {k : Nat × Nat} {pc : Nat} {lv : List (Nat × aV)} {st : List aV} {w : aw_W} {x : Int32} {off : Int} {tgt : Nat} (G : aj_ok Γ ym cc nL ret rm) (d : decode cc pc = .ok (.ifCond .ge off, 3)) (ht : (pc : Int) + off = (tgt : Int)) (kt : 0 ≤ x → aj_J Γ nL k (tgt) (lv) (st) w) (kf : ¬ 0 ≤ x → aj_J Γ nL k (pc + 3) (lv) (st) w) : aj_J Γ nL k (pc) (lv) (aI x :: st) w := fun ls H locs h1 h2 h3 h4 => lv_if_ge G.1 G.2.1 d ht (fun q => kt q ls H locs h1 h2 h3 h4) (fun q => kf q ls H locs h1 h2 h3 h4)
theorem j_if_gt {Γ : aj_G} {ym : MethodName} {cc : ByteArray} {nL : Nat} {ret : Option FieldType} {rm : Room} {k : Nat × Nat} {pc : Nat} {lv : List (Nat × aV)} {st : List aV} {w : aw_W} {x : Int32} {off : Int} {tgt : Nat} (G : aj_ok Γ ym cc nL ret rm) (d : decode cc pc = .ok (.ifCond .gt off, 3)) (ht : (pc : Int) + off = (tgt : Int)) (kt : 0 < x → aj_J Γ nL k (tgt) (lv) (st) w) (kf : ¬ 0 < x → aj_J Γ nL k (pc + 3) (lv) (st) w) : aj_J Γ nL k (pc) (lv) (aI x :: st) w := fun ls H locs h1 h2 h3 h4 => lv_if_gt G.1 G.2.1 d ht (fun q => kt q ls H locs h1 h2 h3 h4) (fun q => kf q ls H locs h1 h2 h3 h4)
theorem j_if_le {Γ : aj_G} {ym : MethodName} {cc : ByteArray} {nL : Nat} {ret : Option FieldType} {rm : Room} {k : Nat × Nat} {pc : Nat} {lv : List (Nat × aV)} {st : List aV} {w : aw_W} {x : Int32} {off : Int} {tgt : Nat} (G : aj_ok Γ ym cc nL ret rm) (d : decode cc pc = .ok (.ifCond .le off, 3)) (ht : (pc : Int) + off = (tgt : Int)) (kt : x ≤ 0 → aj_J Γ nL k (tgt) (lv) (st) w) (kf : ¬ x ≤ 0 → aj_J Γ nL k (pc + 3) (lv) (st) w) : aj_J Γ nL k (pc) (lv) (aI x :: st) w := fun ls H locs h1 h2 h3 h4 => lv_if_le G.1 G.2.1 d ht (fun q => kt q ls H locs h1 h2 h3 h4) (fun q => kf q ls H locs h1 h2 h3 h4)
theorem j_if_ne {Γ : aj_G} {ym : MethodName} {cc : ByteArray} {nL : Nat} {ret : Option FieldType} {rm : Room} {k : Nat × Nat} {pc : Nat} {lv : List (Nat × aV)} {st : List aV} {w : aw_W} {x : Int32} {off : Int} {tgt : Nat} (G : aj_ok Γ ym cc nL ret rm) (d : decode cc pc = .ok (.ifCond .ne off, 3)) (ht : (pc : Int) + off = (tgt : Int)) (kt : ¬ x = 0 → aj_J Γ nL k (tgt) (lv) (st) w) (kf : x = 0 → aj_J Γ nL k (pc + 3) (lv) (st) w) : aj_J Γ nL k (pc) (lv) (aI x :: st) w := fun ls H locs h1 h2 h3 h4 => lv_if_ne G.1 G.2.1 d ht (fun q => kt q ls H locs h1 h2 h3 h4) (fun q => kf q ls H locs h1 h2 h3 h4)
theorem j_icmp_eq {Γ : aj_G} {ym : MethodName} {cc : ByteArray} {nL : Nat} {ret : Option FieldType} {rm : Room} {k : Nat × Nat} {pc : Nat} {lv : List (Nat × aV)} {st : List aV} {w : aw_W} {x y : Int32} {off : Int} {tgt : Nat} (G : aj_ok Γ ym cc nL ret rm) (d : decode cc pc = .ok (.if_icmp .eq off, 3)) (ht : (pc : Int) + off = (tgt : Int)) (kt : x = y → aj_J Γ nL k (tgt) (lv) (st) w) (kf : ¬ x = y → aj_J Γ nL k (pc + 3) (lv) (st) w) : aj_J Γ nL k (pc) (lv) (aI y :: aI x :: st) w := fun ls H locs h1 h2 h3 h4 => lv_icmp_eq G.1 G.2.1 d ht (fun q => kt q ls H locs h1 h2 h3 h4) (fun q => kf q ls H locs h1 h2 h3 h4)
theorem j_icmp_lt {Γ : aj_G} {ym : MethodName} {cc : ByteArray} {nL : Nat} {ret : Option FieldType} {rm : Room} {k : Nat × Nat} {pc : Nat} {lv : List (Nat × aV)} {st : List aV} {w : aw_W} {x y : Int32} {off : Int} {tgt : Nat} (G : aj_ok Γ ym cc nL ret rm) (d : decode cc pc = .ok (.if_icmp .lt off, 3)) (ht : (pc : Int) + off = (tgt : Int)) (kt : x < y → aj_J Γ nL k (tgt) (lv) (st) w) (kf : ¬ x < y → aj_J Γ nL k (pc + 3) (lv) (st) w) : aj_J Γ nL k (pc) (lv) (aI y :: aI x :: st) w := fun ls H locs h1 h2 h3 h4 => lv_icmp_lt G.1 G.2.1 d ht (fun q => kt q ls H locs h1 h2 h3 h4) (fun q => kf q ls H locs h1 h2 h3 h4)
theorem j_icmp_ge {Γ : aj_G} {ym : MethodName} {cc : ByteArray} {nL : Nat} {ret : Option FieldType} {rm : Room} {k : Nat × Nat} {pc : Nat} {lv : List (Nat × aV)} {st : List aV} {w : aw_W} {x y : Int32} {off : Int} {tgt : Nat} (G : aj_ok Γ ym cc nL ret rm) (d : decode cc pc = .ok (.if_icmp .ge off, 3)) (ht : (pc : Int) + off = (tgt : Int)) (kt : y ≤ x → aj_J Γ nL k (tgt) (lv) (st) w) (kf : ¬ y ≤ x → aj_J Γ nL k (pc + 3) (lv) (st) w) : aj_J Γ nL k (pc) (lv) (aI y :: aI x :: st) w := fun ls H locs h1 h2 h3 h4 => lv_icmp_ge G.1 G.2.1 d ht (fun q => kt q ls H locs h1 h2 h3 h4) (fun q => kf q ls H locs h1 h2 h3 h4)
theorem j_icmp_gt {Γ : aj_G} {ym : MethodName} {cc : ByteArray} {nL : Nat} {ret : Option FieldType} {rm : Room} {k : Nat × Nat} {pc : Nat} {lv : List (Nat × aV)} {st : List aV} {w : aw_W} {x y : Int32} {off : Int} {tgt : Nat} (G : aj_ok Γ ym cc nL ret rm) (d : decode cc pc = .ok (.if_icmp .gt off, 3)) (ht : (pc : Int) + off = (tgt : Int)) (kt : y < x → aj_J Γ nL k (tgt) (lv) (st) w) (kf : ¬ y < x → aj_J Γ nL k (pc + 3) (lv) (st) w) : aj_J Γ nL k (pc) (lv) (aI y :: aI x :: st) w := fun ls H locs h1 h2 h3 h4 => lv_icmp_gt G.1 G.2.1 d ht (fun q => kt q ls H locs h1 h2 h3 h4) (fun q => kf q ls H locs h1 h2 h3 h4)
theorem j_icmp_le {Γ : aj_G} {ym : MethodName} {cc : ByteArray} {nL : Nat} {ret : Option FieldType} {rm : Room} {k : Nat × Nat} {pc : Nat} {lv : List (Nat × aV)} {st : List aV} {w : aw_W} {x y : Int32} {off : Int} {tgt : Nat} (G : aj_ok Γ ym cc nL ret rm) (d : decode cc pc = .ok (.if_icmp .le off, 3)) (ht : (pc : Int) + off = (tgt : Int)) (kt : x ≤ y → aj_J Γ nL k (tgt) (lv) (st) w) (kf : ¬ x ≤ y → aj_J Γ nL k (pc + 3) (lv) (st) w) : aj_J Γ nL k (pc) (lv) (aI y :: aI x :: st) w := fun ls H locs h1 h2 h3 h4 => lv_icmp_le G.1 G.2.1 d ht (fun q => kt q ls H locs h1 h2 h3 h4) (fun q => kf q ls H locs h1 h2 h3 h4)
theorem j_icmp_ne {Γ : aj_G} {ym : MethodName} {cc : ByteArray} {nL : Nat} {ret : Option FieldType} {rm : Room} {k : Nat × Nat} {pc : Nat} {lv : List (Nat × aV)} {st : List aV} {w : aw_W} {x y : Int32} {off : Int} {tgt : Nat} (G : aj_ok Γ ym cc nL ret rm) (d : decode cc pc = .ok (.if_icmp .ne off, 3)) (ht : (pc : Int) + off = (tgt : Int)) (kt : ¬ x = y → aj_J Γ nL k (tgt) (lv) (st) w) (kf : x = y → aj_J Γ nL k (pc + 3) (lv) (st) w) : aj_J Γ nL k (pc) (lv) (aI y :: aI x :: st) w := fun ls H locs h1 h2 h3 h4 => lv_icmp_ne G.1 G.2.1 d ht (fun q => kt q ls H locs h1 h2 h3 h4) (fun q => kf q ls H locs h1 h2 h3 h4)
theorem j_acmp_eq {Γ : aj_G} {ym : MethodName} {cc : ByteArray} {nL : Nat} {ret : Option FieldType} {rm : Room} {k : Nat × Nat} {pc : Nat} {lv : List (Nat × aV)} {st : List aV} {w : aw_W} {rx ry : Option Nat} {off : Int} {tgt : Nat} (G : aj_ok Γ ym cc nL ret rm) (d : decode cc pc = .ok (.if_acmp .eq off, 3)) (ht : (pc : Int) + off = (tgt : Int)) (kt : rx = ry → aj_J Γ nL k (tgt) (lv) (st) w) (kf : ¬ rx = ry → aj_J Γ nL k (pc + 3) (lv) (st) w) : aj_J Γ nL k (pc) (lv) (aRf ry :: aRf rx :: st) w := fun ls H locs h1 h2 h3 h4 => lv_acmp_eq G.1 G.2.1 d ht (fun q => kt q ls H locs h1 h2 h3 h4) (fun q => kf q ls H locs h1 h2 h3 h4)
theorem j_acmp_ne {Γ : aj_G} {ym : MethodName} {cc : ByteArray} {nL : Nat} {ret : Option FieldType} {rm : Room} {k : Nat × Nat} {pc : Nat} {lv : List (Nat × aV)} {st : List aV} {w : aw_W} {rx ry : Option Nat} {off : Int} {tgt : Nat} (G : aj_ok Γ ym cc nL ret rm) (d : decode cc pc = .ok (.if_acmp .ne off, 3)) (ht : (pc : Int) + off = (tgt : Int)) (kt : ¬ rx = ry → aj_J Γ nL k (tgt) (lv) (st) w) (kf : rx = ry → aj_J Γ nL k (pc + 3) (lv) (st) w) : aj_J Γ nL k (pc) (lv) (aRf ry :: aRf rx :: st) w := fun ls H locs h1 h2 h3 h4 => lv_acmp_ne G.1 G.2.1 d ht (fun q => kt q ls H locs h1 h2 h3 h4) (fun q => kf q ls H locs h1 h2 h3 h4)
theorem j_goto {Γ : aj_G} {ym : MethodName} {cc : ByteArray} {nL : Nat} {ret : Option FieldType} {rm : Room} {k : Nat × Nat} {pc : Nat} {lv : List (Nat × aV)} {st : List aV} {w : aw_W} {off : Int} {tgt : Nat} (G : aj_ok Γ ym cc nL ret rm) (d : decode cc pc = .ok (.goto off, 3)) (ht : (pc : Int) + off = (tgt : Int)) (h : aj_J Γ nL k (tgt) (lv) (st) w) : aj_J Γ nL k (pc) (lv) (st) w := fun ls H locs h1 h2 h3 h4 => lv_goto G.1 G.2.1 d ht (h ls H locs h1 h2 h3 h4)
theorem j_ifnull {Γ : aj_G} {ym : MethodName} {cc : ByteArray} {nL : Nat} {ret : Option FieldType} {rm : Room} {k : Nat × Nat} {pc : Nat} {lv : List (Nat × aV)} {st : List aV} {w : aw_W} {r : Option Nat} {off : Int} {tgt : Nat} (G : aj_ok Γ ym cc nL ret rm) (d : decode cc pc = .ok (.ifnull off, 3)) (ht : (pc : Int) + off = (tgt : Int)) (kt : r = none → aj_J Γ nL k (tgt) (lv) (st) w) (kf : ¬ r = none → aj_J Γ nL k (pc + 3) (lv) (st) w) : aj_J Γ nL k (pc) (lv) (aRf r :: st) w := by
  intro ls H locs h1 h2 h3 h4
  cases r with
  | none => exact lv_ifnullN G.1 G.2.1 d ht (kt rfl ls H locs h1 h2 h3 h4)
  | some a => exact lv_ifnull G.1 G.2.1 d (kf (fun q => by cases q) ls H locs h1 h2 h3 h4)
theorem j_ifnonnull {Γ : aj_G} {ym : MethodName} {cc : ByteArray} {nL : Nat} {ret : Option FieldType} {rm : Room} {k : Nat × Nat} {pc : Nat} {lv : List (Nat × aV)} {st : List aV} {w : aw_W} {r : Option Nat} {off : Int} {tgt : Nat} (G : aj_ok Γ ym cc nL ret rm) (d : decode cc pc = .ok (.ifnonnull off, 3)) (ht : (pc : Int) + off = (tgt : Int)) (kt : ¬ r = none → aj_J Γ nL k (tgt) (lv) (st) w) (kf : r = none → aj_J Γ nL k (pc + 3) (lv) (st) w) : aj_J Γ nL k (pc) (lv) (aRf r :: st) w := by
  intro ls H locs h1 h2 h3 h4
  cases r with
  | none => exact lv_ifnonnullN G.1 G.2.1 d (kf rfl ls H locs h1 h2 h3 h4)
  | some a => exact lv_ifnonnull G.1 G.2.1 d ht (kt (fun q => by cases q) ls H locs h1 h2 h3 h4)
theorem j_tableIn {Γ : aj_G} {ym : MethodName} {cc : ByteArray} {nL : Nat} {ret : Option FieldType} {rm : Room} {k : Nat × Nat} {pc : Nat} {lv : List (Nat × aV)} {st : List aV} {w : aw_W} {dflt lo hi : Int} {offs : Array Int} {len : Nat} {x : Int32} {off : Int} {tgt : Nat} (G : aj_ok Γ ym cc nL ret rm) (d : decode cc pc = .ok (.tableswitch dflt lo hi offs, len)) (q1 : ¬ x.toInt < lo) (q2 : ¬ hi < x.toInt) (ho : offs[(x.toInt - lo).toNat]? = some off) (ht : (pc : Int) + off = (tgt : Int)) (h : aj_J Γ nL k (tgt) (lv) (st) w) : aj_J Γ nL k (pc) (lv) (aI x :: st) w := fun ls H locs h1 h2 h3 h4 => lv_tableIn G.1 G.2.1 d q1 q2 ho ht (h ls H locs h1 h2 h3 h4)
theorem j_tableOut {Γ : aj_G} {ym : MethodName} {cc : ByteArray} {nL : Nat} {ret : Option FieldType} {rm : Room} {k : Nat × Nat} {pc : Nat} {lv : List (Nat × aV)} {st : List aV} {w : aw_W} {dflt lo hi : Int} {offs : Array Int} {len : Nat} {x : Int32} {tgt : Nat} (G : aj_ok Γ ym cc nL ret rm) (d : decode cc pc = .ok (.tableswitch dflt lo hi offs, len)) (q1 : x.toInt < lo ∨ hi < x.toInt) (ht : (pc : Int) + dflt = (tgt : Int)) (h : aj_J Γ nL k (tgt) (lv) (st) w) : aj_J Γ nL k (pc) (lv) (aI x :: st) w := fun ls H locs h1 h2 h3 h4 => lv_tableOut G.1 G.2.1 d q1 ht (h ls H locs h1 h2 h3 h4)
end
section
/-! ===== instructions that touch cells ===== -/
/-- the entry 'index' of the class 'own' is field k of class number ci -/
def aw_F (own : String) (index ci k : Nat) : Prop := ∃ (C : String) (T : u_T) (N : Nat), aCl[ci]? = some (C, T, N) ∧ k < N ∧ (∀ w ∈ u_ws C T N, w ∈ aw_ws) ∧
  (Cond.fieldLink own index (T k).1 (T k).2.1 (T k).2.2.1 ∈ aw_ws ∨ ∃ host, Cond.fieldLinkNest own index (T k).1 (T k).2.1 (T k).2.2.1 host ∈ aw_ws)
/-- what a store asks of a class: its fields' types, their names apart -/
def aw_C (ci : Nat) : Prop := ∃ (C : String) (T : u_T) (N : Nat) (ty0 : Nat → FieldType), aCl[ci]? = some (C, T, N) ∧ (∀ k, k < N → parseFieldDescriptor (T k).2.2.1 = some (ty0 k)) ∧ (∀ a, a < N → ∀ b, b < N → a ≠ b → (T a).2.1 ≠ (T b).2.1)
def aw_T (ci k : Nat) (ty : FieldType) (fin : Bool) : Prop := ∃ (C : String) (T : u_T) (N : Nat), aCl[ci]? = some (C, T, N) ∧ parseFieldDescriptor (T k).2.2.1 = some ty ∧ (T k).2.2.2 = fin ∧ (T k).1 = C
section
variable {Γ : aj_G} {ym : MethodName} {cc : ByteArray} {nL : Nat} {ret : Option FieldType} {rm : Room} {k : Nat × Nat} {pc : Nat} {lv : List (Nat × aV)} {st : List aV} {w w' : aw_W} {r : Option Nat} {ci kf index : Nat}
theorem j_gV {v : aV} (G : aj_ok Γ ym cc nL ret rm) (d : decode cc pc = .ok (.getfield index, 3)) (hF : aw_F ym.cls index ci kf) (e : aw_gV w r ci kf = some (aj_v v)) (h : aj_J Γ nL k (pc + 3) lv (v :: st) w) : aj_J Γ nL k pc lv (aRf r :: st) w := by
  intro ls H locs h1 h2 h3 h4
  obtain ⟨a, fs, rfl, ha, hv⟩ := aw_gV_some e
  obtain ⟨C, T, N, hc, hk, hU, hl⟩ := hF
  have hP := h2.cell ha
  rcases hl with hl | ⟨host, hl⟩
  · exact va_get G.1 G.2.1 (Ts := u_ws C T N) (fun w hw => G.word (hU w hw)) (fun w hw => hw) G.own G.K.1 hP 0 rfl hc kf hk (G.word hl) (fun x hx => hx) hv d (h ls H locs h1 h2 h3 h4)
  · exact va_getN G.1 G.2.1 (Ts := u_ws C T N) (fun w hw => G.word (hU w hw)) (fun w hw => hw) G.own G.K.1 hP 0 rfl hc kf hk (G.word hl) (fun x hx => hx) hv d (h ls H locs h1 h2 h3 h4)
theorem j_gI {x : Int32} (G : aj_ok Γ ym cc nL ret rm) (d : decode cc pc = .ok (.getfield index, 3)) (hF : aw_F ym.cls index ci kf) (e : aw_gI w r ci kf = some x) (h : aj_J Γ nL k (pc + 3) lv (aI x :: st) w) : aj_J Γ nL k pc lv (aRf r :: st) w := by
  obtain ⟨v, e1, e2⟩ := Option.bind_eq_some_iff.mp e
  rw [aw_vI_some e2] at e1
  exact j_gV (v := aI x) G d hF e1 h
theorem j_gL {x : Int64} (G : aj_ok Γ ym cc nL ret rm) (d : decode cc pc = .ok (.getfield index, 3)) (hF : aw_F ym.cls index ci kf) (e : aw_gL w r ci kf = some x) (h : aj_J Γ nL k (pc + 3) lv (aL x :: st) w) : aj_J Γ nL k pc lv (aRf r :: st) w := by
  obtain ⟨v, e1, e2⟩ := Option.bind_eq_some_iff.mp e
  rw [aw_vL_some e2] at e1
  exact j_gV (v := aL x) G d hF e1 h
theorem j_gR {x : Option Nat} (G : aj_ok Γ ym cc nL ret rm) (d : decode cc pc = .ok (.getfield index, 3)) (hF : aw_F ym.cls index ci kf) (e : aw_gR w r ci kf = some x) (h : aj_J Γ nL k (pc + 3) lv (aRf x :: st) w) : aj_J Γ nL k pc lv (aRf r :: st) w := by
  obtain ⟨v, e1, e2⟩ := Option.bind_eq_some_iff.mp e
  rw [aw_vR_some e2] at e1
  exact j_gV (v := aRf x) G d hF e1 h
theorem j_pV {v : aV} {ty : FieldType} (G : aj_ok Γ ym cc nL ret rm) (d : decode cc pc = .ok (.putfield index, 3)) (hF : aw_F ym.cls index ci kf) (hC : aw_C ci) (hT : aw_T ci kf ty false) (hn : narrow ty (aj_v v) = aj_v v) (hf : fits ty (aj_v v) = true) (e : aw_pV w r ci kf (aj_v v) = some w') (h : aj_J Γ nL k (pc + 3) lv st w') : aj_J Γ nL k pc lv (v :: aRf r :: st) w := by
  intro ls H locs h1 h2 h3 h4
  obtain ⟨a, fs, rfl, ha, hlt, rfl⟩ := aw_pV_some e
  obtain ⟨C, T, N, hc, hk, hU, hl⟩ := hF
  obtain ⟨C2, T2, N2, ty0, hc2, hty, hnm⟩ := hC
  cases Option.some.inj (hc2.symm.trans hc)
  obtain ⟨C3, T3, N3, hc3, hd, hfin, -⟩ := hT
  cases Option.some.inj (hc3.symm.trans hc)
  have hts : ∀ w ∈ u_ws C T N, w.before (ga Γ) (gs Γ) = true := fun w hw => G.word (hU w hw)
  have hap := va_apart (own := ym.cls) hts (fun w hw => hw) ty0 hty hnm G.K.1 hc
  obtain ⟨q, hq, cell, q1, q2, q3, q4⟩ := h2.2 a _ ha
  cases Option.some.inj (hq.symm.trans hc)
  obtain ⟨hS, hfc, kC, hkC, hkind⟩ := G.K.1.1 ci _ hc
  obtain ⟨cf, kf', fi, f, hi, hsl⟩ := hS kf hk
  have hlay := hts _ (u_in_lay hk)
  unfold u_lay at hlay
  rw [if_neg (by rw [hfin]; decide)] at hlay
  have hst := (u_facts hfc hkC (u_lays hts (fun w hw => hw) hk) hi).1
  have h6 := u_store hfc hkC hkind hlay hi hd hn hf
  have goal : ∀ (H' : Heap), H'[a]? = some (cell.setSlot f.slot (aj_v v)) → H'.size = H.size → (∀ q : Nat, q ≠ a → H'[q]? = H[q]?) → W (gp Γ) (gl Γ) (ge Γ) (gR Γ) (gs Γ) (gm Γ) (ga Γ) (gb Γ) (gme Γ) (gc Γ) H' (locs ++ [⟨a, f.slot⟩]) k.1 k.2 (gQ Γ) (F0 (gm Γ) (pc + 3) ls (st.map aj_v)) := by
    intro H' e1 e2 e3
    rw [hsl] at e1
    exact h ls H' _ h1 (h2.set ⟨_, hc, t_OB.to (V := updV (vp_V fs) kf (aj_v v)) ⟨_, e1, q2, q3, t_set q4 hap hk (aj_v v)⟩ (fun j _ => vp_updV_set hlt (aj_v v) j)⟩ e2 e3) (h3.set ha) (h4.put e2 e3 (h3 a _ ha))
  rcases hl with hl | ⟨host, hl⟩
  · exact W.putK G.1 G.2.1 (f := f) ⟨G.own, G.word hl, ⟨_, _, _, hi⟩, hst⟩ (by rw [q2]; exact h6) q1 q3 (by rw [hsl]; exact k2_hasslot (q4 kf hk)) rfl rfl d goal
  · exact va_WputK G.1 G.2.1 (f := f) G.own (G.word hl) hi hst (by rw [q2]; exact h6) q1 q3 (by rw [hsl]; exact k2_hasslot (q4 kf hk)) rfl rfl d goal
/-- a final field, in a constructor of its own type -/
theorem j_pF {v : aV} {ty : FieldType} (G : aj_ok Γ ym cc nL ret rm) (d : decode cc pc = .ok (.putfield index, 3)) (hF : aw_F ym.cls index ci kf) (hC : aw_C ci) (hT : aw_T ci kf ty true) (hy : ym.name = "<init>") (hown : (aCl[ci]?).map (fun q => q.1) = some ym.cls) (hlk : ∀ C T N, aCl[ci]? = some (C, T, N) → Cond.fieldLink ym.cls index (T kf).1 (T kf).2.1 (T kf).2.2.1 ∈ aw_ws) (hn : narrow ty (aj_v v) = aj_v v) (hf : fits ty (aj_v v) = true) (e : aw_pV w r ci kf (aj_v v) = some w') (h : aj_J Γ nL k (pc + 3) lv st w') : aj_J Γ nL k pc lv (v :: aRf r :: st) w := by
  intro ls H locs h1 h2 h3 h4
  obtain ⟨a, fs, rfl, ha, hlt, rfl⟩ := aw_pV_some e
  obtain ⟨C, T, N, hc, hk, hU, -⟩ := hF
  obtain ⟨C2, T2, N2, ty0, hc2, hty, hnm⟩ := hC
  cases Option.some.inj (hc2.symm.trans hc)
  obtain ⟨C3, T3, N3, hc3, hd, hfin, hdecl⟩ := hT
  cases Option.some.inj (hc3.symm.trans hc)
  rw [hc] at hown
  have hown : C = ym.cls := Option.some.inj hown
  have hl := hlk C T N hc
  have hts : ∀ w ∈ u_ws C T N, w.before (ga Γ) (gs Γ) = true := fun w hw => G.word (hU w hw)
  have hap := va_apart (own := ym.cls) hts (fun w hw => hw) ty0 hty hnm G.K.1 hc
  obtain ⟨q, hq, cell, q1, q2, q3, q4⟩ := h2.2 a _ ha
  cases Option.some.inj (hq.symm.trans hc)
  obtain ⟨hS, hfc, kC, hkC, hkind⟩ := G.K.1.1 ci _ hc
  obtain ⟨cf, kf', fi, f, hi, hsl⟩ := hS kf hk
  have hlay := hts _ (u_in_lay hk)
  unfold u_lay at hlay
  rw [if_pos hfin] at hlay
  have hst := (u_facts hfc hkC (u_lays hts (fun w hw => hw) hk) hi).1
  have hcf : (gm Γ).cls = cf := by
    obtain ⟨_, _, c', _, _, _, -, -, hf', -, -, -, hown2, -⟩ := Cond.laysFinal_spec hlay
    have e1 : c' = cf := by have := hi.symm.trans hf'; simp at this; exact this.1.symm
    rw [hdecl, hown] at hown2
    rw [← e1]; exact Option.some.inj (G.own.symm.trans hown2)
  have h6 := u_fits hfc hkC hkind (Or.inr hlay) hi hd hn hf
  refine W.putFinK G.1 G.2.1 G.own (G.word hl) hi hst hcf (G.name.trans hy) (by rw [q2]; exact h6) q1 q3 (by rw [hsl]; exact k2_hasslot (q4 kf hk)) rfl rfl d ?_
  intro H' e1 e2 e3
  rw [hsl] at e1
  exact h ls H' _ h1 (h2.set ⟨_, hc, t_OB.to (V := updV (vp_V fs) kf (aj_v v)) ⟨_, e1, q2, q3, t_set q4 hap hk (aj_v v)⟩ (fun j _ => vp_updV_set hlt (aj_v v) j)⟩ e2 e3) (h3.set ha) (h4.put e2 e3 (h3 a _ ha))
/-! arrays -/
theorem j_alen {t : Nat} {ty : FieldType} {n : Int32} (G : aj_ok Γ ym cc nL ret rm) (d : decode cc pc = .ok (.arraylength, 1)) (ht : (aw_tys (gA Γ))[t]? = some (gA Γ t, ty)) (e : aw_len w r t = some n) (h : aj_J Γ nL k (pc + 1) lv (aI n :: st) w) : aj_J Γ nL k pc lv (aRf r :: st) w := by
  intro ls H locs h1 h2 h3 h4
  obtain ⟨⟨a, x⟩, e1, e2⟩ := Option.map_eq_some_iff.mp e
  obtain ⟨rfl, ha⟩ := aw_arr_some e1
  exact va_alen G.1 G.2.1 G.K.1 (h2.cell ha) 0 t rfl ht e2 d (h ls H locs h1 h2 h3 h4)
theorem j_bald {i x : Int32} (G : aj_ok Γ ym cc nL ret rm) (d : decode cc pc = .ok (.baload, 1)) (e : aw_aI w r 0 i = some x) (h : aj_J Γ nL k (pc + 1) lv (aI x :: st) w) : aj_J Γ nL k pc lv (aI i :: aRf r :: st) w := by
  intro ls H locs h1 h2 h3 h4
  obtain ⟨a, n, f, rfl, ha, hin, rfl⟩ := aw_aI_some e
  exact va_bald G.1 G.2.1 G.K.1 (h2.cell ha) 0 0 rfl rfl hin d (h ls H locs h1 h2 h3 h4)
theorem j_iald {i x : Int32} (G : aj_ok Γ ym cc nL ret rm) (d : decode cc pc = .ok (.iaload, 1)) (e : aw_aI w r 1 i = some x) (h : aj_J Γ nL k (pc + 1) lv (aI x :: st) w) : aj_J Γ nL k pc lv (aI i :: aRf r :: st) w := by
  intro ls H locs h1 h2 h3 h4
  obtain ⟨a, n, f, rfl, ha, hin, rfl⟩ := aw_aI_some e
  exact va_iald G.1 G.2.1 G.K.1 (h2.cell ha) 0 1 rfl rfl hin d (h ls H locs h1 h2 h3 h4)
theorem j_zald {i x : Int32} (G : aj_ok Γ ym cc nL ret rm) (d : decode cc pc = .ok (.baload, 1)) (e : aw_aI w r 3 i = some x) (h : aj_J Γ nL k (pc + 1) lv (aI x :: st) w) : aj_J Γ nL k pc lv (aI i :: aRf r :: st) w := by
  intro ls H locs h1 h2 h3 h4
  obtain ⟨a, n, f, rfl, ha, hin, rfl⟩ := aw_aI_some e
  exact va_zald G.1 G.2.1 G.K.1 (h2.cell ha) 0 3 rfl rfl hin d (h ls H locs h1 h2 h3 h4)
theorem j_lald {i : Int32} {x : Int64} (G : aj_ok Γ ym cc nL ret rm) (d : decode cc pc = .ok (.laload, 1)) (e : aw_aL w r 2 i = some x) (h : aj_J Γ nL k (pc + 1) lv (aL x :: st) w) : aj_J Γ nL k pc lv (aI i :: aRf r :: st) w := by
  intro ls H locs h1 h2 h3 h4
  obtain ⟨a, n, f, rfl, ha, hin, rfl⟩ := aw_aL_some e
  exact va_lald G.1 G.2.1 G.K.1 (h2.cell ha) 0 2 rfl rfl hin d (h ls H locs h1 h2 h3 h4)
theorem j_aald {t : Nat} {C : String} {i : Int32} {x : Option Nat} (G : aj_ok Γ ym cc nL ret rm) (d : decode cc pc = .ok (.aaload, 1)) (ht : (aw_tys (gA Γ))[t]? = some (gA Γ t, .object C)) (e : aw_aR w r t i = some x) (h : aj_J Γ nL k (pc + 1) lv (aRf x :: st) w) : aj_J Γ nL k pc lv (aI i :: aRf r :: st) w := by
  intro ls H locs h1 h2 h3 h4
  obtain ⟨a, n, f, rfl, ha, hin, rfl⟩ := aw_aR_some e
  exact va_aldq G.1 G.2.1 G.K.1 (h2.cell ha) 0 t rfl ht hin d (h ls H locs h1 h2 h3 h4)
theorem aj_updV_i (f : Nat → Int32) (j : Nat) (x : Int32) : updV (fun q => Value.int (f q)) j (.int x) = fun q => Value.int (upd f j x q) := by
  funext q
  by_cases hq : q = j
  · subst hq; simp [updV, upd]
  · simp [updV, upd, hq]
theorem j_bast {i x : Int32} (G : aj_ok Γ ym cc nL ret rm) (d : decode cc pc = .ok (.bastore, 1)) (e : aw_sI w r 0 i x.toInt8.toInt32 = some w') (h : aj_J Γ nL k (pc + 1) lv st w') : aj_J Γ nL k pc lv (aI x :: aI i :: aRf r :: st) w := by
  intro ls H locs h1 h2 h3 h4
  obtain ⟨a, n, f, rfl, ha, hin, rfl⟩ := aw_sI_some e
  refine W.bast G.1 G.2.1 (h2.2 a _ ha) ((G.K.1.2 0 _ rfl).1 n (fun j => .int (f j))) (fun q => by cases q) (by show ¬ (i < 0 ∨ (arrV _ _ _).slots.size ≤ _); rw [arrV_size]; exact hin) rfl rfl d fun H1 e1 z oq => ?_
  refine h ls H1 _ h1 (h2.set ?_ z oq) (h3.set ha) (h4.put z oq (h3 a _ ha))
  show H1[a]? = some (vp_cell _ _)
  rw [e1]
  show some ((vp_cell (gA Γ 0) (n, .inl f)).setSlot _ _) = some (vp_cell (gA Γ 0) (n, _))
  rw [vp_cell_i, vp_cell_i, arrV_store]
  exact congrArg (fun g => some (arrV (gA Γ 0) n g)) (aj_updV_i f _ _)
theorem j_iast {i x : Int32} (G : aj_ok Γ ym cc nL ret rm) (d : decode cc pc = .ok (.iastore, 1)) (e : aw_sI w r 1 i x = some w') (h : aj_J Γ nL k (pc + 1) lv st w') : aj_J Γ nL k pc lv (aI x :: aI i :: aRf r :: st) w := by
  intro ls H locs h1 h2 h3 h4
  obtain ⟨a, n, f, rfl, ha, hin, rfl⟩ := aw_sI_some e
  refine W.iast G.1 G.2.1 (h2.2 a _ ha) ((G.K.1.2 1 _ rfl).1 n (fun j => .int (f j))) (fun q => by cases q) (by show ¬ (i < 0 ∨ (arrV _ _ _).slots.size ≤ _); rw [arrV_size]; exact hin) rfl rfl d fun H1 e1 z oq => ?_
  refine h ls H1 _ h1 (h2.set ?_ z oq) (h3.set ha) (h4.put z oq (h3 a _ ha))
  show H1[a]? = some (vp_cell _ _)
  rw [e1]
  show some ((vp_cell (gA Γ 1) (n, .inl f)).setSlot _ _) = some (vp_cell (gA Γ 1) (n, _))
  rw [vp_cell_i, vp_cell_i, arrV_store]
  exact congrArg (fun g => some (arrV (gA Γ 1) n g)) (aj_updV_i f _ _)
theorem j_zast {i x : Int32} (G : aj_ok Γ ym cc nL ret rm) (d : decode cc pc = .ok (.bastore, 1)) (hx : narrow .boolean (.int x) = .int x) (e : aw_sI w r 3 i x = some w') (h : aj_J Γ nL k (pc + 1) lv st w') : aj_J Γ nL k pc lv (aI x :: aI i :: aRf r :: st) w := by
  intro ls H locs h1 h2 h3 h4
  obtain ⟨a, n, f, rfl, ha, hin, rfl⟩ := aw_sI_some e
  refine W.zast G.1 G.2.1 (h2.2 a _ ha) ((G.K.1.2 3 _ rfl).1 n (fun j => .int (f j))) (fun q => by cases q) (by show ¬ (i < 0 ∨ (arrV _ _ _).slots.size ≤ _); rw [arrV_size]; exact hin) rfl rfl d fun H1 e1 z oq => ?_
  refine h ls H1 _ h1 (h2.set ?_ z oq) (h3.set ha) (h4.put z oq (h3 a _ ha))
  show H1[a]? = some (vp_cell _ _)
  rw [e1, hx]
  show some ((vp_cell (gA Γ 3) (n, .inl f)).setSlot _ _) = some (vp_cell (gA Γ 3) (n, _))
  rw [vp_cell_i, vp_cell_i, arrV_store]
  exact congrArg (fun g => some (arrV (gA Γ 3) n g)) (aj_updV_i f _ _)
theorem j_last {i : Int32} {x : Int64} (G : aj_ok Γ ym cc nL ret rm) (d : decode cc pc = .ok (.lastore, 1)) (e : aw_sL w r 2 i x = some w') (h : aj_J Γ nL k (pc + 1) lv st w') : aj_J Γ nL k pc lv (aL x :: aI i :: aRf r :: st) w := by
  intro ls H locs h1 h2 h3 h4
  obtain ⟨a, n, f, rfl, ha, hin, rfl⟩ := aw_sL_some e
  refine W.last G.1 G.2.1 (h2.2 a _ ha) ((G.K.1.2 2 _ rfl).1 n (fun j => .long (f j))) (fun q => by cases q) (by show ¬ (i < 0 ∨ (arrV _ _ _).slots.size ≤ _); rw [arrV_size]; exact hin) rfl rfl d fun H1 e1 z oq => ?_
  refine h ls H1 _ h1 (h2.set ?_ z oq) (h3.set ha) (h4.put z oq (h3 a _ ha))
  show H1[a]? = some (vp_cell _ _)
  rw [e1]
  show some ((vp_cell (gA Γ 2) (n, .inr (.inl f))).setSlot _ _) = some (vp_cell (gA Γ 2) (n, _))
  rw [vp_cell_l, vp_cell_l, arrV_store]
  refine congrArg (fun g => some (arrV (gA Γ 2) n g)) ?_
  funext q
  by_cases hq : q = i.toNatClampNeg
  · subst hq; simp [updV, vp_updL]
  · simp [updV, vp_updL, hq]
/-- a reference into an array of its own kind -/
theorem j_aast {t cv : Nat} {T : u_T} {N : Nat} {C : String} {i : Int32} {x : Option Nat} {q0 : Nat × List Value} (G : aj_ok Γ ym cc nL ret rm) (d : decode cc pc = .ok (.aastore, 1)) (ht : (aw_tys (gA Γ))[t]? = some (gA Γ t, .object C)) (hc : aCl[cv]? = some (C, T, N)) (hx : aw_obj w x cv = some q0) (e : aw_sR w r t i x = some w') (h : aj_J Γ nL k (pc + 1) lv st w') : aj_J Γ nL k pc lv (aRf x :: aI i :: aRf r :: st) w := by
  intro ls H locs h1 h2 h3 h4
  obtain ⟨a, n, f, rfl, ha, hin, rfl⟩ := aw_sR_some e
  obtain ⟨rfl, hx1⟩ := aw_obj_some hx
  have hlt : i.toNatClampNeg < n := Nat.not_le.mp fun q => hin (Or.inr q)
  have h0 : ¬ i < 0 := fun q => hin (Or.inl q)
  obtain ⟨r', hr', cellV, g1, g2, g3, -⟩ := h2.2 _ _ hx1
  have hcls := (G.K.1.1 cv _ hc).2
  obtain ⟨kA, comp, k1, k2, k3, -⟩ := (G.K.1.2 t _ ht).2
  have hcomp : comp = (gD Γ).1 cv := Option.some.inj (k3.symm.trans hcls.1)
  subst hcomp
  obtain ⟨kC, hkC, hkk⟩ := hcls.2
  refine W.aast G.1 G.2.1 (h2.2 a _ ha) (fun q h => by cases h) (fun h => by cases h) k1 k2 rfl hkC ⟨h0, by show _ < (arrV _ _ _).slots.size; rw [arrV_size]; exact hlt⟩ g1 (fun q h => by rw [g3] at h; cases h) (by rw [g2]; exact hkC) (by rw [g2]; exact va_assign hcls) rfl rfl d fun H1 e1 z oq => ?_
  refine h ls H1 _ h1 (h2.set ?_ z oq) (h3.set ha) (h4.put z oq (h3 a _ ha))
  show H1[a]? = some (vp_cell _ _)
  rw [e1]
  show some ((vp_cell (gA Γ t) (n, .inr (.inr (.inr (.inr f))))).setSlot _ _) = some (vp_cell (gA Γ t) (n, _))
  rw [vp_cell_q, vp_cell_q, arrV_store]
  refine congrArg (fun g => some (arrV (gA Γ t) n g)) ?_
  funext q
  by_cases hq : q = i.toNatClampNeg
  · subst hq; simp [updV, va_up, va_rf]
  · simp [updV, va_up, hq]
end
end
section
/-! ===== contracts, ends, calls ===== -/
def aj_post (D : va_G) (dA : Nat → ClassId) (base : Nat) (w : aw_W) (st t : State) : Prop := aw_R D dA w t.heap ∧ aw_In base w ∧ va_F (fun q => base ≤ q) st t
def aj_Qc (D : va_G) (dA : Nat → ClassId) (base : Nat) (post : Option aV → aw_W → Prop) : Array Value → State → Outcome → State → Prop := fun _ st oc t => ∃ (v : Option aV) (w : aw_W), oc = .returned (v.map aj_v) ∧ post v w ∧ aj_post D dA base w st t
def aj_Pc (D : va_G) (dA : Nat → ClassId) (base : Nat) (av : List aV) (w : aw_W) : Array Value → State → Prop := va_Pc (av.map aj_v) (fun U => aw_K D dA base U ∧ aw_R D dA w U.heap ∧ aw_In base w)
/-- the contract: from every state that holds the world w the method with the arguments av comes to its end: it answers v with the world w' (post v w') -/
def aj_Ct (l : Launch) (D : va_G) (dA : Nat → ClassId) (base : Nat) (M : aj_M) (rm : Room) (av : List aV) (w : aw_W) (post : Option aV → aw_W → Prop) : Prop :=
  Met l M.1 [Cond.code M.1 M.2.1 M.2.2.1 M.2.2.2] rm (aj_Pc D dA base av w) (aj_Qc D dA base post) rm.cells rm.slots (fun q => base ≤ q)
/-- an end by 'return' is an end of the method -/
def aj_fin (Γ : aj_G) (rm : Room) (post : Option aV → aw_W → Prop) : Prop :=
  ∀ (H : Heap) (locs : List Loc) (g : JFrame), W (gp Γ) (gl Γ) (ge Γ) (gR Γ) (gs Γ) (gm Γ) (ga Γ) (gb Γ) (gme Γ) (gc Γ) H locs rm.cells rm.slots (MQ (gb Γ) (aj_Qc (gD Γ) (gA Γ) (gB Γ) post) (ga Γ) (gs Γ) rm.cells rm.slots (fun q => gB Γ ≤ q)) g → W (gp Γ) (gl Γ) (ge Γ) (gR Γ) (gs Γ) (gm Γ) (ga Γ) (gb Γ) (gme Γ) (gc Γ) H locs rm.cells rm.slots (gQ Γ) g
theorem aj_blind {D : va_G} {dA : Nat → ClassId} {base : Nat} {av : List aV} {w : aw_W} : FrameBlind (aj_Pc D dA base av w) :=
  fun a U g mk h => ⟨h.1, h.2.1.warm (U := U.calling g mk a) (State.WarmedH.refl U) (Nat.le_refl _) (fun _ _ _ => rfl), h.2.2.1, h.2.2.2⟩
theorem aj_enter {l : Launch} {D : va_G} {dA : Nat → ClassId} {base : Nat} {M : aj_M} {rm : Room} {av : List aV} {w : aw_W} {post : Option aV → aw_W → Prop} (hl : l.stackTraces = false) (hy : plainName M.1.cls = true) (hn : aj_wd av ≤ M.2.2.1)
    (body : ∀ Γ : aj_G, aj_ok Γ M.1 M.2.1 M.2.2.1 M.2.2.2 rm → aj_fin Γ rm post → aj_J Γ M.2.2.1 (0, 0) 0 (aj_args 0 av) [] w) : aj_Ct l D dA base M rm av w post := by
  refine Met.ofW hy rfl ?_
  intro p e s m args below meth c s₁ B hml hv
  obtain ⟨rfl, hK, hR, hI⟩ := hv
  have hl' := lv_entry (av.map aj_v) (n := M.2.2.1) (by rw [aj_sl_wd]; exact hn)
  rw [aj_args_lv] at hl'
  rw [lg_entry_eq]
  exact body (p, l, e, (headSpec [Cond.code M.1 M.2.1 M.2.2.1 M.2.2.2] rm).room, s, m, (av.map aj_v).toArray, below, meth, c, MQ below (aj_Qc D dA base post) (av.map aj_v).toArray s rm.cells rm.slots (fun q => base ≤ q), D, dA, base)
    ⟨B.exec, B.bytes, hml, findClass_of_methodNamed B.named, hK, B.notSynchronized, B.returns, hl, rfl, (name_of_methodNamed B.named B.method).1⟩ (fun _ _ _ h => h) _ s.heap [] hl' hR hI va_S.rf
section
variable {Γ : aj_G} {ym : MethodName} {cc : ByteArray} {nL : Nat} {ret : Option FieldType} {rm : Room} {k : Nat × Nat} {pc : Nat} {lv : List (Nat × aV)} {st : List aV} {w w' : aw_W} {r : Option Nat} {ci kf index : Nat} {post : Option aV → aw_W → Prop}
theorem j_iret {v : Int32} (G : aj_ok Γ ym cc nL (some .int) rm) (E : aj_fin Γ rm post) (d : decode cc pc = .ok (.ireturn, 1)) (hk : k.1 ≤ rm.cells ∧ k.2 ≤ rm.slots) (hp : post (some (aI v)) w) : aj_J Γ nL k pc lv [aI v] w := by
  intro ls H locs h1 h2 h3 h4
  exact W.widen hk.1 hk.2 (E _ _ _ (W.iret G.1 G.2.1 G.retT (fun t ht hW => ⟨some (aI v), w, rfl, hp, by rw [ht]; exact h2, h3, h4.F ht⟩) h4.2.2 d G.locks))
theorem j_zret {v : Int32} (G : aj_ok Γ ym cc nL (some .boolean) rm) (E : aj_fin Γ rm post) (d : decode cc pc = .ok (.ireturn, 1)) (hk : k.1 ≤ rm.cells ∧ k.2 ≤ rm.slots) (hv : narrow .boolean (.int v) = .int v) (hp : post (some (aI v)) w) : aj_J Γ nL k pc lv [aI v] w := by
  intro ls H locs h1 h2 h3 h4
  exact W.widen hk.1 hk.2 (E _ _ _ (W.zret G.1 G.2.1 G.retT hv (fun t ht hW => ⟨some (aI v), w, rfl, hp, by rw [ht]; exact h2, h3, h4.F ht⟩) h4.2.2 d G.locks))
theorem j_lret {v : Int64} (G : aj_ok Γ ym cc nL (some .long) rm) (E : aj_fin Γ rm post) (d : decode cc pc = .ok (.lreturn, 1)) (hk : k.1 ≤ rm.cells ∧ k.2 ≤ rm.slots) (hp : post (some (aL v)) w) : aj_J Γ nL k pc lv [aL v] w := by
  intro ls H locs h1 h2 h3 h4
  exact W.widen hk.1 hk.2 (E _ _ _ (W.lret G.1 G.2.1 G.retT (fun t ht hW => ⟨some (aL v), w, rfl, hp, by rw [ht]; exact h2, h3, h4.F ht⟩) h4.2.2 d G.locks))
theorem j_aret {C : String} (G : aj_ok Γ ym cc nL (some (.object C)) rm) (E : aj_fin Γ rm post) (d : decode cc pc = .ok (.areturn, 1)) (hk : k.1 ≤ rm.cells ∧ k.2 ≤ rm.slots) (hp : post (some (aRf r)) w) : aj_J Γ nL k pc lv [aRf r] w := by
  intro ls H locs h1 h2 h3 h4
  refine W.widen hk.1 hk.2 (E _ _ _ (W.aret G.1 G.2.1 G.retT (Or.inl ⟨C, rfl⟩) ?_ (fun t ht hW => ⟨some (aRf r), w, rfl, hp, by rw [ht]; exact h2, h3, h4.F ht⟩) h4.2.2 d G.locks))
  cases r with
  | none => exact Or.inl rfl
  | some a => exact Or.inr ⟨a, rfl⟩
theorem j_vret (G : aj_ok Γ ym cc nL none rm) (E : aj_fin Γ rm post) (d : decode cc pc = .ok (.return_, 1)) (hk : k.1 ≤ rm.cells ∧ k.2 ≤ rm.slots) (hp : post none w) : aj_J Γ nL k pc lv [] w := by
  intro ls H locs h1 h2 h3 h4
  exact W.widen hk.1 hk.2 (E _ _ _ (W.vret G.1 G.2.1 G.retT (fun t ht hW => ⟨none, w, rfl, hp, by rw [ht]; exact h2, h3, h4.F ht⟩) h4.2.2 d G.locks))
theorem j_run {mc ms : Nat} {A : Array Value} {st0 : List aV} {pn : Option aV → aw_W → Prop}
    (hr : ∀ (ls : Array Slot) (H : Heap) (locs : List Loc), lv_has ls nL (aj_lv lv) → aw_R (gD Γ) (gA Γ) w H → aw_In (gB Γ) w → va_S (fun q => gB Γ ≤ q) (gs Γ).heap H locs →
      va_Run (gp Γ) (gl Γ) (ge Γ) (gR Γ) (gs Γ) (gm Γ) (ga Γ) (gb Γ) (gme Γ) (gc Γ) H locs k.1 k.2 mc ms (F0 (gm Γ) pc ls (st0.map aj_v)) (st.map aj_v) (aj_Qc (gD Γ) (gA Γ) (gB Γ) pn A) (fun q => gB Γ ≤ q))
    (kn : ∀ v w', pn v w' → aj_J Γ nL (k.1 + mc, k.2 + ms) (pc + 3) lv (v.toList ++ st) w') : aj_J Γ nL k pc lv st0 w := by
  intro ls H locs h1 h2 h3 h4 T hT X
  obtain ⟨v, st₀, t, T', L, h0, X', hL, e1, e2, ⟨v', w', hv, hp, hR', hI', hF⟩, sg⟩ := hr ls H locs h1 h2 h3 h4 T hT X
  cases hv
  obtain ⟨hz, hk⟩ := hF
  rw [h0] at hz hk
  have k3 : va_S (fun q => gB Γ ≤ q) (gs Γ).heap T'.heap (locs ++ L) := ⟨Nat.le_trans h4.1 (by rw [e1]; exact hz), fun q q1 q2 => by rw [e1, hk q (Nat.lt_of_lt_of_le q1 h4.1) q2]; exact h4.2.1 q q1 q2, fun q hq => by
    rcases List.mem_append.mp hq with h | h
    · exact h4.2.2 q h
    · exact hL q h⟩
  obtain ⟨t2, a1, b1⟩ := kn v' w' hp ls T'.heap (locs ++ L) h1 (by rw [e1]; exact hR') hI' k3 T' rfl X'
  rw [List.map_append, show (v'.toList).map aj_v = (v'.map aj_v).toList by cases v' <;> rfl] at a1
  exact ⟨t2, sg t2 a1, b1⟩
/-- what the tables say of a method that is called -/
def aw_Mw (M : aj_M) (n : Nat) : Prop := Cond.code M.1 M.2.1 M.2.2.1 M.2.2.2 ∈ aw_ws ∧ Cond.initialized M.1.cls ∈ aw_ws ∧ (M.1.cls ≠ "java/lang/invoke/MethodHandle" ∧ M.1.cls ≠ "java/lang/invoke/VarHandle") ∧ (parseMethodDescriptor M.1.desc).map (fun d => d.parameters.length) = some n
def aw_Mi (M : aj_M) : Prop := Cond.instanceMethod M.1 ∈ aw_ws ∧ Cond.selects M.1.cls M.1 M.1 ∈ aw_ws
def aw_L (own : String) (index : Nat) (y : MethodName) : Prop := Cond.methodLink own index y ∈ aw_ws ∨ ∃ host, Cond.methodLinkNest own index y host ∈ aw_ws
theorem aw_Mw.len {M : aj_M} {n : Nat} (h : aw_Mw M n) : ∀ sig, parseMethodDescriptor M.1.desc = some sig → n = sig.parameters.length := by
  intro sig hs
  have h2 := h.2.2.2
  rw [hs] at h2
  exact (Option.some.inj h2).symm
theorem aj_ok.warm (G : aj_ok Γ ym cc nL ret rm) {H : Heap} {locs : List Loc} (h4 : va_S (fun q => gB Γ ≤ q) (gs Γ).heap H locs) {U : State} (hU : U.heap = H) (hW : (gs Γ).WarmedH U.vm) : aw_K (gD Γ) (gA Γ) (gB Γ) U :=
  G.K.warm hW (by rw [hU]; exact h4.1) (fun q h1 h2 => by rw [hU]; exact h4.2.1 q h1 h2)
theorem aj_ok.words (G : aj_ok Γ ym cc nL ret rm) {c : Cond} (hc : c ∈ aw_ws) : ∀ w ∈ [c], ∀ (a' : Array Value) (U : State), (gs Γ).WarmedH U.vm → w.before a' U = true := by
  intro w hw a' U hW
  rw [List.mem_singleton.mp hw]
  exact aw_at (aw_ws_ok hc) hW (G.K.2.1 _ hc)
theorem j_callV {M : aj_M} {rmc : Room} {n : Nat} {As st0 : List aV} {T : u_T} {N : Nat} {q0 : Nat × List Value} {pn : Option aV → aw_W → Prop} (G : aj_ok Γ ym cc nL ret rm) (d : decode cc pc = .ok (.invokevirtual index, 3)) (hM : aj_Ct (gl Γ) (gD Γ) (gA Γ) (gB Γ) M rmc (aRf r :: As) w pn)
    (hw : aw_Mw M n) (hi : aw_Mi M) (hL : aw_L ym.cls index M.1) (hc : aCl[ci]? = some (M.1.cls, T, N)) (ho : aw_obj w r ci = some q0) (hn : As.length = n) (hst : st0 = As.reverse ++ aRf r :: st) (hW : aj_wd st ≤ 8) (hf : rmc.frames + 1 ≤ rm.frames ∧ 8 + (M.2.2.1 + 11) + rmc.locals ≤ rm.locals) (hcs : k.1 + rmc.cells ≤ rm.cells ∧ k.2 + rmc.slots ≤ rm.slots)
    (kn : ∀ v w', pn v w' → aj_J Γ nL (k.1 + rmc.cells, k.2 + rmc.slots) (pc + 3) lv (v.toList ++ st) w') : aj_J Γ nL k pc lv st0 w := by
  refine j_run (pn := pn) (A := ((aRf r :: As).map aj_v).toArray) (mc := rmc.cells) (ms := rmc.slots) ?_ kn
  intro ls H locs h1 h2 h3 h4
  obtain ⟨rfl, ha⟩ := aw_obj_some ho
  have hrcv : ∃ cellB : Cell, H[q0.1]? = some cellB ∧ cellB.vm.isStatics = false ∧ (gs Γ).vm.findClass M.1.cls = some cellB.cls := va_recv (q0 := 0) (fs := q0.2) G.K.1 (h2.cell ha) hc rfl
  have hpre : PreV (gs Γ) H M.1.cls q0.1 (aj_Pc (gD Γ) (gA Γ) (gB Γ) (aRf (some q0.1) :: As) w) (As.map aj_v) := ⟨aj_blind, hrcv, fun U hU hW => ⟨rfl, G.warm h4 hU hW, by rw [hU]; exact h2, h3⟩⟩
  have hfr : rmc.frames + 1 ≤ (gR Γ).frames := by rw [G.room]; exact hf.1
  have hlo : 8 + (M.2.2.1 + 11) + rmc.locals ≤ (gR Γ).locals := by rw [G.room]; exact hf.2
  have hcs' : k.1 + rmc.cells ≤ (gR Γ).cells ∧ k.2 + rmc.slots ≤ (gR Γ).slots := by rw [G.room]; exact hcs
  rcases hL with hL | ⟨host, hL⟩
  · exact va_runV (Ts := []) (n := n) (ws := [Cond.code M.1 M.2.1 M.2.2.1 M.2.2.2]) ⟨G.1, G.2.1, G.maxL, G.own, fun _ h => nomatch h⟩ hM ⟨⟨rfl, rfl, hfr, hlo, G.words hw.1, List.mem_singleton_self _, G.word hw.1, G.word hw.2.1, hw.2.2.1, hw.len, G.word hL⟩, G.word hi.1, G.word hi.2⟩ hpre rfl (by rw [List.length_map]; exact hn) h1.1 (by rw [hst]; simp [aj_v, va_rf]) (by rw [aj_wd_sum]; simpa using hW) d hcs'
  · exact va_runVN (Ts := []) (n := n) (ws := [Cond.code M.1 M.2.1 M.2.2.1 M.2.2.2]) ⟨G.1, G.2.1, G.maxL, G.own, fun _ h => nomatch h⟩ hM ⟨⟨⟨rfl, rfl, hfr, hlo, G.words hw.1, List.mem_singleton_self _⟩, G.word hw.1, G.word hw.2.1, hw.2.2.1, hw.len, G.word hL⟩, G.word hi.1, G.word hi.2⟩ hpre rfl (by rw [List.length_map]; exact hn) h1.1 (by rw [hst]; simp [aj_v, va_rf]) (by rw [aj_wd_sum]; simpa using hW) d hcs'
theorem j_callS {M : aj_M} {rmc : Room} {n : Nat} {As st0 : List aV} {pn : Option aV → aw_W → Prop} (G : aj_ok Γ ym cc nL ret rm) (d : decode cc pc = .ok (.invokestatic index, 3)) (hM : aj_Ct (gl Γ) (gD Γ) (gA Γ) (gB Γ) M rmc As w pn)
    (hw : aw_Mw M n) (hi : Cond.static M.1 ∈ aw_ws) (hL : aw_L ym.cls index M.1) (hn : As.length = n) (hst : st0 = As.reverse ++ st) (hW : aj_wd st ≤ 8) (hf : rmc.frames + 1 ≤ rm.frames ∧ 8 + (M.2.2.1 + 11) + rmc.locals ≤ rm.locals) (hcs : k.1 + rmc.cells ≤ rm.cells ∧ k.2 + rmc.slots ≤ rm.slots)
    (kn : ∀ v w', pn v w' → aj_J Γ nL (k.1 + rmc.cells, k.2 + rmc.slots) (pc + 3) lv (v.toList ++ st) w') : aj_J Γ nL k pc lv st0 w := by
  refine j_run (pn := pn) (A := (As.map aj_v).toArray) (mc := rmc.cells) (ms := rmc.slots) ?_ kn
  intro ls H locs h1 h2 h3 h4
  have hpre : PreS (gs Γ) H (aj_Pc (gD Γ) (gA Γ) (gB Γ) As w) (As.map aj_v) := ⟨aj_blind, fun U hU hW => ⟨rfl, G.warm h4 hU hW, by rw [hU]; exact h2, h3⟩⟩
  have hfr : rmc.frames + 1 ≤ (gR Γ).frames := by rw [G.room]; exact hf.1
  have hlo : 8 + (M.2.2.1 + 11) + rmc.locals ≤ (gR Γ).locals := by rw [G.room]; exact hf.2
  have hcs' : k.1 + rmc.cells ≤ (gR Γ).cells ∧ k.2 + rmc.slots ≤ (gR Γ).slots := by rw [G.room]; exact hcs
  rcases hL with hL | ⟨host, hL⟩
  · exact va_runS (Ts := []) (n := n) (ws := [Cond.code M.1 M.2.1 M.2.2.1 M.2.2.2]) ⟨G.1, G.2.1, G.maxL, G.own, fun _ h => nomatch h⟩ hM ⟨⟨rfl, rfl, hfr, hlo, G.words hw.1, List.mem_singleton_self _, G.word hw.1, G.word hw.2.1, hw.2.2.1, hw.len, G.word hL⟩, G.word hi⟩ hpre rfl (by rw [List.length_map]; exact hn) h1.1 (by rw [hst]; simp [aj_v, va_rf]) (by rw [aj_wd_sum]; simpa using hW) d hcs'
  · exact va_runSN (Ts := []) (n := n) (ws := [Cond.code M.1 M.2.1 M.2.2.1 M.2.2.2]) ⟨G.1, G.2.1, G.maxL, G.own, fun _ h => nomatch h⟩ hM ⟨⟨⟨rfl, rfl, hfr, hlo, G.words hw.1, List.mem_singleton_self _⟩, G.word hw.1, G.word hw.2.1, hw.2.2.1, hw.len, G.word hL⟩, G.word hi, trivial⟩ hpre rfl (by rw [List.length_map]; exact hn) h1.1 (by rw [hst]; simp [aj_v, va_rf]) (by rw [aj_wd_sum]; simpa using hW) d hcs'
end
end
section
/-! ===== new objects and arrays; constructors ===== -/
section
variable {Γ : aj_G} {ym : MethodName} {cc : ByteArray} {nL : Nat} {ret : Option FieldType} {rm : Room} {k : Nat × Nat} {pc : Nat} {lv : List (Nat × aV)} {st : List aV} {w w' : aw_W} {r : Option Nat} {ci kf index : Nat}
theorem aj_ok.base (G : aj_ok Γ ym cc nL ret rm) {H : Heap} {locs : List Loc} (h4 : va_S (fun q => gB Γ ≤ q) (gs Γ).heap H locs) : gB Γ ≤ H.size := Nat.le_trans G.K.2.2.2.2.2 h4.1
theorem aj_grow {H H1 : Heap} {locs : List Loc} (h4 : va_S (fun q => gB Γ ≤ q) (gs Γ).heap H locs) (hz : H.size ≤ H1.size) (o1 : ∀ q : Nat, q < H.size → H1[q]? = H[q]?) : va_S (fun q => gB Γ ≤ q) (gs Γ).heap H1 locs :=
  ⟨Nat.le_trans h4.1 hz, fun q q1 q2 => (o1 q (Nat.lt_of_lt_of_le q1 h4.1)).trans (h4.2.1 q q1 q2), h4.2.2⟩
theorem j_new {C : String} {T : u_T} {N z : Nat} {fs : List Value} (ty : Nat → FieldType) (G : aj_ok Γ ym cc nL ret rm) (d : decode cc pc = .ok (.new index, 3)) (hc : aCl[ci]? = some (C, T, N)) (hty : ∀ k, k < N → parseFieldDescriptor (T k).2.2.1 = some (ty k)) (hU : ∀ w ∈ u_ws C T N, w ∈ aw_ws) (hl : Cond.classLink ym.cls index C ∈ aw_ws) (hi : Cond.instantiable C N ∈ aw_ws) (hini : Cond.initialized C ∈ aw_ws)
    (hz : w.1 = some z) (hfs : ∀ j, j < N → defaultValue (ty j) = vp_V fs j) (hcs : k.1 + 1 ≤ rm.cells ∧ k.2 + N ≤ rm.slots) (h : aj_J Γ nL (k.1 + 1, k.2 + N) (pc + 3) lv (aRf (some z) :: st) (aw_add w z (.inr (ci, fs)))) : aj_J Γ nL k pc lv st w := by
  intro ls H locs h1 h2 h3 h4
  have hs := h2.1 z hz
  have hKn := G.K.1.1 ci _ hc
  have hcs' : k.1 + 1 ≤ (gR Γ).cells ∧ k.2 + N ≤ (gR Γ).slots := by rw [G.room]; exact hcs
  have hts : ∀ w ∈ u_ws C T N, w.before (ga Γ) (gs Γ) = true := fun w hw => G.word (hU w hw)
  refine W.newcK G.1 G.2.1 G.own (G.word hl) (G.word hi) (G.word hini) rfl d hcs'.1 hcs'.2 hKn.2.1 hs fun H1 kC hkC e1 z1 o1 => ?_
  exact h ls H1 locs h1 (h2.add hs ⟨_, hc, (u_born ty hts (fun w hw => hw) hKn hkC e1 hty).to hfs⟩ z1 o1) (h3.add (by rw [← hs]; exact G.base h4)) (aj_grow h4 (by omega) (fun q hq => o1 q (by omega)))
theorem j_newa {atype : ArrayType} {t z N : Nat} {ty : FieldType} {n : Int32} {a0 : vp_A} (G : aj_ok Γ ym cc nL ret rm) (d : decode cc pc = .ok (.newarray atype, 2)) (hw : Cond.arrayClass (newarray.typeOf atype) ∈ aw_ws) (hty : newarray.typeOf atype = ty) (hra : (gs Γ).vm.findClass ("[" ++ ty.toString) = some (gA Γ t))
    (ha : ∀ cA : ClassId, vp_cell cA a0 = arrV cA N (fun _ => defaultValue ty)) (hn : ¬ n < 0) (hN : n.toNatClampNeg = N) (hb : N * componentBytes ty ≤ 536870912) (hz : w.1 = some z) (hcs : k.1 + 1 ≤ rm.cells ∧ k.2 + N ≤ rm.slots) (h : aj_J Γ nL (k.1 + 1, k.2 + N) (pc + 2) lv (aRf (some z) :: st) (aw_add w z (.inl (t, a0)))) : aj_J Γ nL k pc lv (aI n :: st) w := by
  intro ls H locs h1 h2 h3 h4
  subst hty
  have hs := h2.1 z hz
  have hcs' : k.1 + 1 ≤ (gR Γ).cells ∧ k.2 + N ≤ (gR Γ).slots := by rw [G.room]; exact hcs
  refine va_newaK G.1 G.2.1 (G.word hw) rfl d rfl hn hN hb hcs'.1 hcs'.2 hs fun H1 cA e1 z1 o1 hAr hNm => ?_
  have hcA : cA = gA Γ t := Option.some.inj (hNm.symm.trans hra)
  subst hcA
  refine h ls H1 locs h1 (h2.add hs ?_ z1 o1) (h3.add (by rw [← hs]; exact G.base h4)) (aj_grow h4 (by omega) (fun q hq => o1 q (by omega)))
  show H1[z]? = some (vp_cell _ _)
  rw [ha]
  exact e1
theorem j_anew {t z N : Nat} {C : String} {n : Int32} (G : aj_ok Γ ym cc nL ret rm) (d : decode cc pc = .ok (.anewarray index, 3)) (hl : Cond.classLink ym.cls index C ∈ aw_ws) (ho : Cond.arrayOver (.object C) ∈ aw_ws) (ht : (aw_tys (gA Γ))[t]? = some (gA Γ t, .object C))
    (hn : ¬ n < 0) (hN : n.toNatClampNeg = N) (hb : N * 4 ≤ 536870912) (hz : w.1 = some z) (hcs : k.1 + 1 ≤ rm.cells ∧ k.2 + N ≤ rm.slots) (h : aj_J Γ nL (k.1 + 1, k.2 + N) (pc + 3) lv (aRf (some z) :: st) (aw_add w z (.inl (t, N, .inr (.inr (.inr (.inr (fun _ => none)))))))) : aj_J Γ nL k pc lv (aI n :: st) w := by
  intro ls H locs h1 h2 h3 h4
  subst hN
  have hs := h2.1 z hz
  subst hs
  have hcs' : k.1 + 1 ≤ (gR Γ).cells ∧ k.2 + n.toNatClampNeg ≤ (gR Γ).slots := by rw [G.room]; exact hcs
  refine W.anew G.1 G.2.1 G.own (G.word hl) (G.word ho) rfl d rfl hn hb hcs'.1 hcs'.2 fun cA kA comp f1 f2 f3 f4 => ?_
  obtain ⟨kA', comp', g1, g2, g3, g4⟩ := (G.K.1.2 t _ ht).2
  have hcA : cA = gA Γ t := Option.some.inj (f1.symm.trans g4)
  subst hcA
  generalize hH1 : H.push ({ cls := gA Γ t, slots := Array.replicate n.toNatClampNeg .null, vm := .none } : Cell) = H1
  have z1 : H1.size = H.size + 1 := by rw [← hH1, Array.size_push]
  have e1 : H1[H.size]? = some (arrV (gA Γ t) n.toNatClampNeg (fun _ => .null)) := by rw [← hH1, Array.getElem?_push_size, ← arrV_new]
  have o1 : ∀ q : Nat, q < H.size → H1[q]? = H[q]? := fun q hq => by rw [← hH1, Array.getElem?_push, if_neg (Nat.ne_of_lt hq)]
  refine h ls H1 locs h1 (h2.add rfl ?_ z1 o1) (h3.add (G.base h4)) (aj_grow h4 (by omega) o1)
  show H1[H.size]? = some (vp_cell (gA Γ t) (n.toNatClampNeg, .inr (.inr (.inr (.inr (fun _ => none))))))
  rw [vp_cell_q]
  exact e1
theorem j_objInit {a : Nat} (G : aj_ok Γ ym cc nL ret rm) (d : decode cc pc = .ok (.invokespecial index, 3)) (hl : Cond.methodLink ym.cls index objectInit ∈ aw_ws) (hi : Cond.instanceMethod objectInit ∈ aw_ws) (hc : Cond.code objectInit ⟨#[0xb1]⟩ 1 none ∈ aw_ws) (hf : 1 ≤ rm.frames ∧ aj_wd st + 12 ≤ rm.locals) (h : aj_J Γ nL k (pc + 3) lv st w) : aj_J Γ nL k pc lv (aRf (some a) :: st) w := by
  intro ls H locs h1 h2 h3 h4
  have hf' : 1 ≤ (gR Γ).frames ∧ aj_wd st + 12 ≤ (gR Γ).locals := by rw [G.room]; exact hf
  exact W.objInit G.1 G.2.1 G.own (G.word hl) (G.word hi) (G.word hc) rfl (h1.1.trans G.maxL.symm) rfl d hf'.1 (by rw [aj_wd_sum]; simpa using hf'.2) (h ls H locs h1 h2 h3 h4)
theorem j_callI {M : aj_M} {rmc : Room} {n a : Nat} {As st0 : List aV} {pn : Option aV → aw_W → Prop} (G : aj_ok Γ ym cc nL ret rm) (d : decode cc pc = .ok (.invokespecial index, 3)) (hM : aj_Ct (gl Γ) (gD Γ) (gA Γ) (gB Γ) M rmc (aRf (some a) :: As) w pn) (hy : M.1.name = "<init>") (hre : M.2.2.2 = none)
    (hw : aw_Mw M n) (hi : Cond.instanceMethod M.1 ∈ aw_ws) (hL : aw_L ym.cls index M.1) (hn : As.length = n) (hst : st0 = As.reverse ++ aRf (some a) :: st) (hW : aj_wd st ≤ 8) (hf : rmc.frames + 1 ≤ rm.frames ∧ 8 + (M.2.2.1 + 11) + rmc.locals ≤ rm.locals) (hcs : k.1 + rmc.cells ≤ rm.cells ∧ k.2 + rmc.slots ≤ rm.slots)
    (kn : ∀ v w', pn v w' → aj_J Γ nL (k.1 + rmc.cells, k.2 + rmc.slots) (pc + 3) lv (v.toList ++ st) w') : aj_J Γ nL k pc lv st0 w := by
  refine j_run (pn := pn) (A := ((aRf (some a) :: As).map aj_v).toArray) (mc := rmc.cells) (ms := rmc.slots) ?_ kn
  intro ls H locs h1 h2 h3 h4
  have hpre : PreS (gs Γ) H (aj_Pc (gD Γ) (gA Γ) (gB Γ) (aRf (some a) :: As) w) (.ref a :: As.map aj_v) := ⟨aj_blind, fun U hU hW => ⟨rfl, G.warm h4 hU hW, by rw [hU]; exact h2, h3⟩⟩
  have hfr : rmc.frames + 1 ≤ (gR Γ).frames := by rw [G.room]; exact hf.1
  have hlo : 8 + (M.2.2.1 + 11) + rmc.locals ≤ (gR Γ).locals := by rw [G.room]; exact hf.2
  have hcs' : k.1 + rmc.cells ≤ (gR Γ).cells ∧ k.2 + rmc.slots ≤ (gR Γ).slots := by rw [G.room]; exact hcs
  obtain ⟨y, bytes, maxL, rt⟩ := M
  dsimp only at hre hy
  subst hre
  rcases hL with hL | ⟨host, hL⟩
  · exact va_runI (Ts := []) (n := n) (ws := [Cond.code y bytes maxL none]) ⟨G.1, G.2.1, G.maxL, G.own, fun _ h => nomatch h⟩ hM ⟨⟨rfl, rfl, hfr, hlo, G.words hw.1, List.mem_singleton_self _, G.word hw.1, G.word hw.2.1, hw.2.2.1, hw.len, G.word hL⟩, hy, G.word hi⟩ hpre rfl (by rw [List.length_map]; exact hn) h1.1 (by rw [hst]; simp [aj_v, va_rf]) (by rw [aj_wd_sum]; simpa using hW) d hcs'
  · exact va_runIN (Ts := []) (n := n) (ws := [Cond.code y bytes maxL none]) ⟨G.1, G.2.1, G.maxL, G.own, fun _ h => nomatch h⟩ hM ⟨⟨⟨rfl, rfl, hfr, hlo, G.words hw.1, List.mem_singleton_self _⟩, G.word hw.1, G.word hw.2.1, hw.2.2.1, hw.len, G.word hL⟩, hy, G.word hi⟩ hpre rfl (by rw [List.length_map]; exact hn) h1.1 (by rw [hst]; simp [aj_v, va_rf]) (by rw [aj_wd_sum]; simpa using hW) d hcs'
end
end
section
/-! more rules -/
def aw_le (i : Int32) (n : Nat) : Option Unit := if i.toNatClampNeg ≤ n then some () else none
theorem aw_le_some {i : Int32} {n : Nat} {u : Unit} (h : aw_le i n = some u) : i.toNatClampNeg ≤ n := by
  unfold aw_le at h
  by_cases hc : i.toNatClampNeg ≤ n
  · exact hc
  · rw [if_neg hc] at h; cases h
def aw_succ (i : Int32) (n : Nat) : Option Unit := if (i + 1).toNatClampNeg = i.toNatClampNeg + 1 ∧ i.toNatClampNeg + 1 ≤ n then some () else none
theorem aw_succ_some {i : Int32} {n : Nat} {u : Unit} (h : aw_succ i n = some u) : (i + 1).toNatClampNeg = i.toNatClampNeg + 1 ∧ i.toNatClampNeg + 1 ≤ n := by
  unfold aw_succ at h
  by_cases hc : (i + 1).toNatClampNeg = i.toNatClampNeg + 1 ∧ i.toNatClampNeg + 1 ≤ n
  · exact hc
  · rw [if_neg hc] at h; cases h
def aw_cap (i : Int32) (n : Nat) : Option Nat := if i < 0 then none else if i.toNatClampNeg ≤ n then some i.toNatClampNeg else none
theorem aw_cap_some {i : Int32} {n N : Nat} (h : aw_cap i n = some N) : ¬ i < 0 ∧ i.toNatClampNeg = N ∧ N ≤ n := by
  unfold aw_cap at h
  by_cases h1 : i < 0
  · rw [if_pos h1] at h; cases h
  · rw [if_neg h1] at h
    by_cases hc : i.toNatClampNeg ≤ n
    · rw [if_pos hc] at h
      cases h
      exact ⟨h1, rfl, hc⟩
    · rw [if_neg hc] at h; cases h
theorem j_ldiv {Γ : aj_G} {ym : MethodName} {cc : ByteArray} {nL : Nat} {ret : Option FieldType} {rm : Room} {k : Nat × Nat} {pc : Nat} {lv : List (Nat × aV)} {st : List aV} {w : aw_W} {x y : Int64} (G : aj_ok Γ ym cc nL ret rm) (d : decode cc pc = .ok (.ldiv, 1)) (hne : ¬ y = 0) (h : aj_J Γ nL k (pc + 1) lv (aL (x / y) :: st) w) : aj_J Γ nL k pc lv (aL y :: aL x :: st) w := fun ls H locs h1 h2 h3 h4 => lv_ldiv G.1 G.2.1 d hne (h ls H locs h1 h2 h3 h4)
theorem j_lrem {Γ : aj_G} {ym : MethodName} {cc : ByteArray} {nL : Nat} {ret : Option FieldType} {rm : Room} {k : Nat × Nat} {pc : Nat} {lv : List (Nat × aV)} {st : List aV} {w : aw_W} {x y : Int64} (G : aj_ok Γ ym cc nL ret rm) (d : decode cc pc = .ok (.lrem, 1)) (hne : ¬ y = 0) (h : aj_J Γ nL k (pc + 1) lv (aL (x - x / y * y) :: st) w) : aj_J Γ nL k pc lv (aL y :: aL x :: st) w := fun ls H locs h1 h2 h3 h4 => lv_lrem G.1 G.2.1 d hne (h ls H locs h1 h2 h3 h4)
theorem j_objInitR {Γ : aj_G} {ym : MethodName} {cc : ByteArray} {nL : Nat} {ret : Option FieldType} {rm : Room} {k : Nat × Nat} {pc index : Nat} {lv : List (Nat × aV)} {st : List aV} {w : aw_W} {r : Option Nat} {a : Nat} (G : aj_ok Γ ym cc nL ret rm) (d : decode cc pc = .ok (.invokespecial index, 3)) (hl : Cond.methodLink ym.cls index objectInit ∈ aw_ws) (hi : Cond.instanceMethod objectInit ∈ aw_ws) (hc : Cond.code objectInit ⟨#[0xb1]⟩ 1 none ∈ aw_ws) (hf : 1 ≤ rm.frames ∧ aj_wd st + 12 ≤ rm.locals) (hr : r = some a) (h : aj_J Γ nL k (pc + 3) lv st w) : aj_J Γ nL k pc lv (aRf r :: st) w := by
  subst hr
  exact j_objInit G d hl hi hc hf h
theorem aw_nR (C : String) (r : Option Nat) : narrow (.object C) (aj_v (aRf r)) = aj_v (aRf r) := by cases r <;> rfl
theorem aw_fR (C : String) (r : Option Nat) : fits (.object C) (aj_v (aRf r)) = true := by cases r <;> rfl
theorem aw_nA (t : FieldType) (r : Option Nat) : narrow (.array t) (aj_v (aRf r)) = aj_v (aRf r) := by cases r <;> rfl
theorem aw_fA (t : FieldType) (r : Option Nat) : fits (.array t) (aj_v (aRf r)) = true := by cases r <;> rfl
/-- a number that is a boolean -/
def aw_zz (x : Int32) : Option Unit := if narrow .boolean (.int x) = .int x then some () else none
theorem aw_zz_some {x : Int32} {u : Unit} (h : aw_zz x = some u) : narrow .boolean (.int x) = .int x := by
  unfold aw_zz at h
  by_cases hc : narrow .boolean (.int x) = .int x
  · exact hc
  · rw [if_neg hc] at h; cases h
theorem wd_1_1 : (Jvm.Cond.initialized "AppendStore") ∈ aw_ws := aw_t1 (List.mem_of_getElem? (i := 1) (by decide +kernel)) rfl
theorem wd_1_2 : (Jvm.Cond.initialized "AppendStore$Shelf") ∈ aw_ws := aw_t1 (List.mem_of_getElem? (i := 2) (by decide +kernel)) rfl
theorem wd_1_3 : (Jvm.Cond.initialized "AppendStore$StoreFile") ∈ aw_ws := aw_t1 (List.mem_of_getElem? (i := 3) (by decide +kernel)) rfl
theorem wd_1_4 : (Jvm.Cond.initialized "AppendStore$Octets") ∈ aw_ws := aw_t1 (List.mem_of_getElem? (i := 4) (by decide +kernel)) rfl
theorem wd_1_5 : (Jvm.Cond.initialized "AppendStore$Rec") ∈ aw_ws := aw_t1 (List.mem_of_getElem? (i := 5) (by decide +kernel)) rfl
theorem wd_1_6 : (Jvm.Cond.initialized "AppendStore$Directory") ∈ aw_ws := aw_t1 (List.mem_of_getElem? (i := 6) (by decide +kernel)) rfl
theorem wd_1_7 : (Jvm.Cond.initialized "AppendStore$Merger") ∈ aw_ws := aw_t1 (List.mem_of_getElem? (i := 7) (by decide +kernel)) rfl
theorem wd_1_8 : (Jvm.Cond.initialized "AppendStoreModel") ∈ aw_ws := aw_t1 (List.mem_of_getElem? (i := 8) (by decide +kernel)) rfl
theorem wd_1_14 : (Jvm.Cond.initialized "AppendStore$Key") ∈ aw_ws := aw_t1 (List.mem_of_getElem? (i := 14) (by decide +kernel)) rfl
theorem wd_1_15 : (Jvm.Cond.initialized "AppendStore$Layout") ∈ aw_ws := aw_t1 (List.mem_of_getElem? (i := 15) (by decide +kernel)) rfl
theorem wd_1_18 : (Jvm.Cond.classLink "AppendStoreLaw" (8 : Nat) "AppendStore") ∈ aw_ws := aw_t1 (List.mem_of_getElem? (i := 18) (by decide +kernel)) rfl
theorem wd_1_19 : (Jvm.Cond.instantiable "AppendStore" (5 : Nat)) ∈ aw_ws := aw_t1 (List.mem_of_getElem? (i := 19) (by decide +kernel)) rfl
theorem wd_1_20 : (Jvm.Cond.methodLink "AppendStoreLaw" (60 : Nat) ({ cls := "AppendStore", name := "<init>", desc := "()V" } : Jvm.MethodName)) ∈ aw_ws := aw_t1 (List.mem_of_getElem? (i := 20) (by decide +kernel)) rfl
theorem wd_1_21 : (Jvm.Cond.instanceMethod ({ cls := "AppendStore", name := "<init>", desc := "()V" } : Jvm.MethodName)) ∈ aw_ws := aw_t1 (List.mem_of_getElem? (i := 21) (by decide +kernel)) rfl
theorem wd_1_22 : (Jvm.Cond.code ({ cls := "AppendStore", name := "<init>", desc := "()V" } : Jvm.MethodName) prog_1_method_1_code (1 : Nat) (Option.none : Option Jvm.ClassFile.FieldType)) ∈ aw_ws := aw_t1 (List.mem_of_getElem? (i := 22) (by decide +kernel)) rfl
theorem wd_1_23 : (Jvm.Cond.methodLink "AppendStore" (1 : Nat) ({ cls := "java/lang/Object", name := "<init>", desc := "()V" } : Jvm.MethodName)) ∈ aw_ws := aw_t1 (List.mem_of_getElem? (i := 23) (by decide +kernel)) rfl
theorem wd_1_24 : (Jvm.Cond.instanceMethod ({ cls := "java/lang/Object", name := "<init>", desc := "()V" } : Jvm.MethodName)) ∈ aw_ws := aw_t1 (List.mem_of_getElem? (i := 24) (by decide +kernel)) rfl
theorem wd_1_25 : (Jvm.Cond.code ({ cls := "java/lang/Object", name := "<init>", desc := "()V" } : Jvm.MethodName) object_method_1_code (1 : Nat) (Option.none : Option Jvm.ClassFile.FieldType)) ∈ aw_ws := aw_t1 (List.mem_of_getElem? (i := 25) (by decide +kernel)) rfl
theorem wd_1_26 : (Jvm.Cond.classLink "AppendStore" (7 : Nat) "AppendStore$Shelf") ∈ aw_ws := aw_t1 (List.mem_of_getElem? (i := 26) (by decide +kernel)) rfl
theorem wd_1_27 : (Jvm.Cond.instantiable "AppendStore$Shelf" (4 : Nat)) ∈ aw_ws := aw_t1 (List.mem_of_getElem? (i := 27) (by decide +kernel)) rfl
theorem wd_1_28 : (Jvm.Cond.methodLink "AppendStore" (9 : Nat) ({ cls := "AppendStore$Shelf", name := "<init>", desc := "()V" } : Jvm.MethodName)) ∈ aw_ws := aw_t1 (List.mem_of_getElem? (i := 28) (by decide +kernel)) rfl
theorem wd_1_29 : (Jvm.Cond.instanceMethod ({ cls := "AppendStore$Shelf", name := "<init>", desc := "()V" } : Jvm.MethodName)) ∈ aw_ws := aw_t1 (List.mem_of_getElem? (i := 29) (by decide +kernel)) rfl
theorem wd_1_30 : (Jvm.Cond.code ({ cls := "AppendStore$Shelf", name := "<init>", desc := "()V" } : Jvm.MethodName) prog_8_method_1_code (2 : Nat) (Option.none : Option Jvm.ClassFile.FieldType)) ∈ aw_ws := aw_t1 (List.mem_of_getElem? (i := 30) (by decide +kernel)) rfl
theorem wd_1_31 : (Jvm.Cond.methodLink "AppendStore$Shelf" (3 : Nat) ({ cls := "java/lang/Object", name := "<init>", desc := "()V" } : Jvm.MethodName)) ∈ aw_ws := aw_t1 (List.mem_of_getElem? (i := 31) (by decide +kernel)) rfl
theorem wd_1_32 : (Jvm.Cond.classLink "AppendStore$Shelf" (9 : Nat) "AppendStore$StoreFile") ∈ aw_ws := aw_t1 (List.mem_of_getElem? (i := 32) (by decide +kernel)) rfl
theorem wd_1_33 : (Jvm.Cond.arrayOver (Jvm.ClassFile.FieldType.object "AppendStore$StoreFile")) ∈ aw_ws := aw_t1 (List.mem_of_getElem? (i := 33) (by decide +kernel)) rfl
theorem wd_1_34 : (Jvm.Cond.instantiable "AppendStore$StoreFile" (6 : Nat)) ∈ aw_ws := aw_t1 (List.mem_of_getElem? (i := 34) (by decide +kernel)) rfl
theorem wd_1_35 : (Jvm.Cond.methodLink "AppendStore$Shelf" (17 : Nat) ({ cls := "AppendStore$StoreFile", name := "<init>", desc := "()V" } : Jvm.MethodName)) ∈ aw_ws := aw_t1 (List.mem_of_getElem? (i := 35) (by decide +kernel)) rfl
theorem wd_1_36 : (Jvm.Cond.instanceMethod ({ cls := "AppendStore$StoreFile", name := "<init>", desc := "()V" } : Jvm.MethodName)) ∈ aw_ws := aw_t1 (List.mem_of_getElem? (i := 36) (by decide +kernel)) rfl
theorem wd_1_37 : (Jvm.Cond.code ({ cls := "AppendStore$StoreFile", name := "<init>", desc := "()V" } : Jvm.MethodName) prog_9_method_1_code (2 : Nat) (Option.none : Option Jvm.ClassFile.FieldType)) ∈ aw_ws := aw_t1 (List.mem_of_getElem? (i := 37) (by decide +kernel)) rfl
theorem wd_1_38 : (Jvm.Cond.methodLink "AppendStore$StoreFile" (1 : Nat) ({ cls := "java/lang/Object", name := "<init>", desc := "()V" } : Jvm.MethodName)) ∈ aw_ws := aw_t1 (List.mem_of_getElem? (i := 38) (by decide +kernel)) rfl
theorem wd_1_39 : (Jvm.Cond.classLink "AppendStore$StoreFile" (7 : Nat) "AppendStore$Octets") ∈ aw_ws := aw_t1 (List.mem_of_getElem? (i := 39) (by decide +kernel)) rfl
theorem wd_1_40 : (Jvm.Cond.instantiable "AppendStore$Octets" (2 : Nat)) ∈ aw_ws := aw_t1 (List.mem_of_getElem? (i := 40) (by decide +kernel)) rfl
theorem wd_1_41 : (Jvm.Cond.methodLink "AppendStore$StoreFile" (11 : Nat) ({ cls := "AppendStore$Octets", name := "<init>", desc := "(I)V" } : Jvm.MethodName)) ∈ aw_ws := aw_t1 (List.mem_of_getElem? (i := 41) (by decide +kernel)) rfl
theorem wd_1_42 : (Jvm.Cond.instanceMethod ({ cls := "AppendStore$Octets", name := "<init>", desc := "(I)V" } : Jvm.MethodName)) ∈ aw_ws := aw_t1 (List.mem_of_getElem? (i := 42) (by decide +kernel)) rfl
theorem wd_1_43 : (Jvm.Cond.code ({ cls := "AppendStore$Octets", name := "<init>", desc := "(I)V" } : Jvm.MethodName) prog_6_method_1_code (2 : Nat) (Option.none : Option Jvm.ClassFile.FieldType)) ∈ aw_ws := aw_t1 (List.mem_of_getElem? (i := 43) (by decide +kernel)) rfl
theorem wd_1_44 : (Jvm.Cond.methodLink "AppendStore$Octets" (1 : Nat) ({ cls := "java/lang/Object", name := "<init>", desc := "()V" } : Jvm.MethodName)) ∈ aw_ws := aw_t1 (List.mem_of_getElem? (i := 44) (by decide +kernel)) rfl
theorem wd_1_45 : (Jvm.Cond.fieldLink "AppendStore$Octets" (7 : Nat) "AppendStore$Octets" "cells" "[B") ∈ aw_ws := aw_t1 (List.mem_of_getElem? (i := 45) (by decide +kernel)) rfl
theorem wd_1_46 : (Jvm.Cond.fieldLink "AppendStore$Octets" (13 : Nat) "AppendStore$Octets" "size" "I") ∈ aw_ws := aw_t1 (List.mem_of_getElem? (i := 46) (by decide +kernel)) rfl
theorem wd_1_47 : (Jvm.Cond.laysFinal "AppendStore$Octets" "AppendStore$Octets" "cells" "[B") ∈ aw_ws := aw_t1 (List.mem_of_getElem? (i := 47) (by decide +kernel)) rfl
theorem wd_1_49 : (Jvm.Cond.lays "AppendStore$Octets" "AppendStore$Octets" "size" "I") ∈ aw_ws := aw_t1 (List.mem_of_getElem? (i := 49) (by decide +kernel)) rfl
theorem wd_1_52 : (Jvm.Cond.arrayClass Jvm.ClassFile.FieldType.byte) ∈ aw_ws := aw_t1 (List.mem_of_getElem? (i := 52) (by decide +kernel)) rfl
theorem wd_1_53 : (Jvm.Cond.classLink "AppendStore$StoreFile" (23 : Nat) "AppendStore$Rec") ∈ aw_ws := aw_t1 (List.mem_of_getElem? (i := 53) (by decide +kernel)) rfl
theorem wd_1_54 : (Jvm.Cond.arrayOver (Jvm.ClassFile.FieldType.object "AppendStore$Rec")) ∈ aw_ws := aw_t1 (List.mem_of_getElem? (i := 54) (by decide +kernel)) rfl
theorem wd_1_55 : (Jvm.Cond.instantiable "AppendStore$Rec" (5 : Nat)) ∈ aw_ws := aw_t1 (List.mem_of_getElem? (i := 55) (by decide +kernel)) rfl
theorem wd_1_56 : (Jvm.Cond.methodLinkNest "AppendStore$StoreFile" (29 : Nat) ({ cls := "AppendStore$Rec", name := "<init>", desc := "()V" } : Jvm.MethodName) "AppendStore") ∈ aw_ws := aw_t1 (List.mem_of_getElem? (i := 56) (by decide +kernel)) rfl
theorem wd_1_57 : (Jvm.Cond.instanceMethod ({ cls := "AppendStore$Rec", name := "<init>", desc := "()V" } : Jvm.MethodName)) ∈ aw_ws := aw_t1 (List.mem_of_getElem? (i := 57) (by decide +kernel)) rfl
theorem wd_1_58 : (Jvm.Cond.code ({ cls := "AppendStore$Rec", name := "<init>", desc := "()V" } : Jvm.MethodName) prog_7_method_1_code (1 : Nat) (Option.none : Option Jvm.ClassFile.FieldType)) ∈ aw_ws := aw_t1 (List.mem_of_getElem? (i := 58) (by decide +kernel)) rfl
theorem wd_1_59 : (Jvm.Cond.methodLink "AppendStore$Rec" (1 : Nat) ({ cls := "java/lang/Object", name := "<init>", desc := "()V" } : Jvm.MethodName)) ∈ aw_ws := aw_t1 (List.mem_of_getElem? (i := 59) (by decide +kernel)) rfl
theorem wd_1_60 : (Jvm.Cond.fieldLink "AppendStore$Rec" (33 : Nat) "AppendStore$Rec" "home" "LAppendStore$StoreFile;") ∈ aw_ws := aw_t1 (List.mem_of_getElem? (i := 60) (by decide +kernel)) rfl
theorem wd_1_61 : (Jvm.Cond.fieldLink "AppendStore$StoreFile" (142 : Nat) "AppendStore$Rec" "home" "LAppendStore$StoreFile;") ∈ aw_ws := aw_t1 (List.mem_of_getElem? (i := 61) (by decide +kernel)) rfl
theorem wd_1_62 : (Jvm.Cond.fieldLink "AppendStore$Rec" (42 : Nat) "AppendStore$Rec" "place" "I") ∈ aw_ws := aw_t1 (List.mem_of_getElem? (i := 62) (by decide +kernel)) rfl
theorem wd_1_64 : (Jvm.Cond.fieldLink "AppendStore$StoreFile" (101 : Nat) "AppendStore$Rec" "place" "I") ∈ aw_ws := aw_t1 (List.mem_of_getElem? (i := 64) (by decide +kernel)) rfl
theorem wd_1_65 : (Jvm.Cond.fieldLink "AppendStore$Rec" (15 : Nat) "AppendStore$Rec" "rank" "J") ∈ aw_ws := aw_t1 (List.mem_of_getElem? (i := 65) (by decide +kernel)) rfl
theorem wd_1_66 : (Jvm.Cond.fieldLink "AppendStore$Directory" (31 : Nat) "AppendStore$Rec" "rank" "J") ∈ aw_ws := aw_t1 (List.mem_of_getElem? (i := 66) (by decide +kernel)) rfl
theorem wd_1_68 : (Jvm.Cond.fieldLink "AppendStore$StoreFile" (92 : Nat) "AppendStore$Rec" "rank" "J") ∈ aw_ws := aw_t1 (List.mem_of_getElem? (i := 68) (by decide +kernel)) rfl
theorem wd_1_69 : (Jvm.Cond.fieldLink "AppendStore$Rec" (7 : Nat) "AppendStore$Rec" "valueSize" "I") ∈ aw_ws := aw_t1 (List.mem_of_getElem? (i := 69) (by decide +kernel)) rfl
theorem wd_1_70 : (Jvm.Cond.fieldLink "AppendStore$StoreFile" (96 : Nat) "AppendStore$Rec" "valueSize" "I") ∈ aw_ws := aw_t1 (List.mem_of_getElem? (i := 70) (by decide +kernel)) rfl
theorem wd_1_71 : (Jvm.Cond.fieldLink "AppendStore$Merger" (88 : Nat) "AppendStore$Rec" "source" "LAppendStore$Rec;") ∈ aw_ws := aw_t1 (List.mem_of_getElem? (i := 71) (by decide +kernel)) rfl
theorem wd_1_72 : (Jvm.Cond.fieldLink "AppendStore$StoreFile" (146 : Nat) "AppendStore$Rec" "source" "LAppendStore$Rec;") ∈ aw_ws := aw_t1 (List.mem_of_getElem? (i := 72) (by decide +kernel)) rfl
theorem wd_1_73 : (Jvm.Cond.lays "AppendStore$Rec" "AppendStore$Rec" "home" "LAppendStore$StoreFile;") ∈ aw_ws := aw_t1 (List.mem_of_getElem? (i := 73) (by decide +kernel)) rfl
theorem wd_1_75 : (Jvm.Cond.lays "AppendStore$Rec" "AppendStore$Rec" "place" "I") ∈ aw_ws := aw_t1 (List.mem_of_getElem? (i := 75) (by decide +kernel)) rfl
theorem wd_1_77 : (Jvm.Cond.lays "AppendStore$Rec" "AppendStore$Rec" "rank" "J") ∈ aw_ws := aw_t1 (List.mem_of_getElem? (i := 77) (by decide +kernel)) rfl
theorem wd_1_79 : (Jvm.Cond.lays "AppendStore$Rec" "AppendStore$Rec" "valueSize" "I") ∈ aw_ws := aw_t1 (List.mem_of_getElem? (i := 79) (by decide +kernel)) rfl
theorem wd_1_81 : (Jvm.Cond.lays "AppendStore$Rec" "AppendStore$Rec" "source" "LAppendStore$Rec;") ∈ aw_ws := aw_t1 (List.mem_of_getElem? (i := 81) (by decide +kernel)) rfl
theorem wd_1_84 : (Jvm.Cond.fieldLink "AppendStore$StoreFile" (14 : Nat) "AppendStore$StoreFile" "bytes" "LAppendStore$Octets;") ∈ aw_ws := aw_t1 (List.mem_of_getElem? (i := 84) (by decide +kernel)) rfl
theorem wd_1_85 : (Jvm.Cond.fieldLink "AppendStore$StoreFile" (20 : Nat) "AppendStore$StoreFile" "hint" "LAppendStore$Octets;") ∈ aw_ws := aw_t1 (List.mem_of_getElem? (i := 85) (by decide +kernel)) rfl
theorem wd_1_86 : (Jvm.Cond.fieldLink "AppendStore$StoreFile" (25 : Nat) "AppendStore$StoreFile" "records" "[LAppendStore$Rec;") ∈ aw_ws := aw_t1 (List.mem_of_getElem? (i := 86) (by decide +kernel)) rfl
theorem wd_1_87 : (Jvm.Cond.fieldLink "AppendStore$StoreFile" (33 : Nat) "AppendStore$StoreFile" "recordCount" "I") ∈ aw_ws := aw_t1 (List.mem_of_getElem? (i := 87) (by decide +kernel)) rfl
theorem wd_1_88 : (Jvm.Cond.fieldLink "AppendStore$StoreFile" (37 : Nat) "AppendStore$StoreFile" "number" "I") ∈ aw_ws := aw_t1 (List.mem_of_getElem? (i := 88) (by decide +kernel)) rfl
theorem wd_1_89 : (Jvm.Cond.fieldLink "AppendStore$StoreFile" (40 : Nat) "AppendStore$StoreFile" "synced" "I") ∈ aw_ws := aw_t1 (List.mem_of_getElem? (i := 89) (by decide +kernel)) rfl
theorem wd_1_90 : (Jvm.Cond.laysFinal "AppendStore$StoreFile" "AppendStore$StoreFile" "bytes" "LAppendStore$Octets;") ∈ aw_ws := aw_t1 (List.mem_of_getElem? (i := 90) (by decide +kernel)) rfl
theorem wd_1_92 : (Jvm.Cond.laysFinal "AppendStore$StoreFile" "AppendStore$StoreFile" "hint" "LAppendStore$Octets;") ∈ aw_ws := aw_t1 (List.mem_of_getElem? (i := 92) (by decide +kernel)) rfl
theorem wd_1_94 : (Jvm.Cond.laysFinal "AppendStore$StoreFile" "AppendStore$StoreFile" "records" "[LAppendStore$Rec;") ∈ aw_ws := aw_t1 (List.mem_of_getElem? (i := 94) (by decide +kernel)) rfl
theorem wd_1_96 : (Jvm.Cond.lays "AppendStore$StoreFile" "AppendStore$StoreFile" "recordCount" "I") ∈ aw_ws := aw_t1 (List.mem_of_getElem? (i := 96) (by decide +kernel)) rfl
theorem wd_1_98 : (Jvm.Cond.lays "AppendStore$StoreFile" "AppendStore$StoreFile" "number" "I") ∈ aw_ws := aw_t1 (List.mem_of_getElem? (i := 98) (by decide +kernel)) rfl
theorem wd_1_100 : (Jvm.Cond.lays "AppendStore$StoreFile" "AppendStore$StoreFile" "synced" "I") ∈ aw_ws := aw_t1 (List.mem_of_getElem? (i := 100) (by decide +kernel)) rfl
theorem wd_1_103 : (Jvm.Cond.fieldLink "AppendStore$Shelf" (11 : Nat) "AppendStore$Shelf" "slots" "[LAppendStore$StoreFile;") ∈ aw_ws := aw_t1 (List.mem_of_getElem? (i := 103) (by decide +kernel)) rfl
theorem wd_1_104 : (Jvm.Cond.fieldLink "AppendStore$Shelf" (18 : Nat) "AppendStore$Shelf" "count" "I") ∈ aw_ws := aw_t1 (List.mem_of_getElem? (i := 104) (by decide +kernel)) rfl
theorem wd_1_105 : (Jvm.Cond.fieldLink "AppendStore$Shelf" (22 : Nat) "AppendStore$Shelf" "active" "LAppendStore$StoreFile;") ∈ aw_ws := aw_t1 (List.mem_of_getElem? (i := 105) (by decide +kernel)) rfl
theorem wd_1_106 : (Jvm.Cond.fieldLink "AppendStore$Shelf" (26 : Nat) "AppendStore$Shelf" "lastNumber" "I") ∈ aw_ws := aw_t1 (List.mem_of_getElem? (i := 106) (by decide +kernel)) rfl
theorem wd_1_107 : (Jvm.Cond.laysFinal "AppendStore$Shelf" "AppendStore$Shelf" "slots" "[LAppendStore$StoreFile;") ∈ aw_ws := aw_t1 (List.mem_of_getElem? (i := 107) (by decide +kernel)) rfl
theorem wd_1_109 : (Jvm.Cond.lays "AppendStore$Shelf" "AppendStore$Shelf" "count" "I") ∈ aw_ws := aw_t1 (List.mem_of_getElem? (i := 109) (by decide +kernel)) rfl
theorem wd_1_111 : (Jvm.Cond.lays "AppendStore$Shelf" "AppendStore$Shelf" "active" "LAppendStore$StoreFile;") ∈ aw_ws := aw_t1 (List.mem_of_getElem? (i := 111) (by decide +kernel)) rfl
theorem wd_1_113 : (Jvm.Cond.lays "AppendStore$Shelf" "AppendStore$Shelf" "lastNumber" "I") ∈ aw_ws := aw_t1 (List.mem_of_getElem? (i := 113) (by decide +kernel)) rfl
theorem wd_1_116 : (Jvm.Cond.classLink "AppendStore" (16 : Nat) "AppendStore$Directory") ∈ aw_ws := aw_t1 (List.mem_of_getElem? (i := 116) (by decide +kernel)) rfl
theorem wd_1_117 : (Jvm.Cond.instantiable "AppendStore$Directory" (2 : Nat)) ∈ aw_ws := aw_t1 (List.mem_of_getElem? (i := 117) (by decide +kernel)) rfl
theorem wd_1_118 : (Jvm.Cond.methodLink "AppendStore" (18 : Nat) ({ cls := "AppendStore$Directory", name := "<init>", desc := "()V" } : Jvm.MethodName)) ∈ aw_ws := aw_t1 (List.mem_of_getElem? (i := 118) (by decide +kernel)) rfl
theorem wd_1_119 : (Jvm.Cond.instanceMethod ({ cls := "AppendStore$Directory", name := "<init>", desc := "()V" } : Jvm.MethodName)) ∈ aw_ws := aw_t1 (List.mem_of_getElem? (i := 119) (by decide +kernel)) rfl
theorem wd_1_120 : (Jvm.Cond.code ({ cls := "AppendStore$Directory", name := "<init>", desc := "()V" } : Jvm.MethodName) prog_2_method_1_code (1 : Nat) (Option.none : Option Jvm.ClassFile.FieldType)) ∈ aw_ws := aw_t1 (List.mem_of_getElem? (i := 120) (by decide +kernel)) rfl
theorem wd_1_121 : (Jvm.Cond.methodLink "AppendStore$Directory" (3 : Nat) ({ cls := "java/lang/Object", name := "<init>", desc := "()V" } : Jvm.MethodName)) ∈ aw_ws := aw_t1 (List.mem_of_getElem? (i := 121) (by decide +kernel)) rfl
theorem wd_1_122 : (Jvm.Cond.classLink "AppendStore$Directory" (11 : Nat) "AppendStore$Rec") ∈ aw_ws := aw_t1 (List.mem_of_getElem? (i := 122) (by decide +kernel)) rfl
theorem wd_1_123 : (Jvm.Cond.fieldLink "AppendStore$Directory" (13 : Nat) "AppendStore$Directory" "rows" "[LAppendStore$Rec;") ∈ aw_ws := aw_t1 (List.mem_of_getElem? (i := 123) (by decide +kernel)) rfl
theorem wd_1_124 : (Jvm.Cond.fieldLink "AppendStore$Directory" (19 : Nat) "AppendStore$Directory" "count" "I") ∈ aw_ws := aw_t1 (List.mem_of_getElem? (i := 124) (by decide +kernel)) rfl
theorem wd_1_125 : (Jvm.Cond.laysFinal "AppendStore$Directory" "AppendStore$Directory" "rows" "[LAppendStore$Rec;") ∈ aw_ws := aw_t1 (List.mem_of_getElem? (i := 125) (by decide +kernel)) rfl
theorem wd_1_127 : (Jvm.Cond.lays "AppendStore$Directory" "AppendStore$Directory" "count" "I") ∈ aw_ws := aw_t1 (List.mem_of_getElem? (i := 127) (by decide +kernel)) rfl
theorem wd_1_130 : (Jvm.Cond.classLink "AppendStore" (23 : Nat) "AppendStore$Merger") ∈ aw_ws := aw_t1 (List.mem_of_getElem? (i := 130) (by decide +kernel)) rfl
theorem wd_1_131 : (Jvm.Cond.instantiable "AppendStore$Merger" (5 : Nat)) ∈ aw_ws := aw_t1 (List.mem_of_getElem? (i := 131) (by decide +kernel)) rfl
theorem wd_1_132 : (Jvm.Cond.methodLink "AppendStore" (25 : Nat) ({ cls := "AppendStore$Merger", name := "<init>", desc := "()V" } : Jvm.MethodName)) ∈ aw_ws := aw_t1 (List.mem_of_getElem? (i := 132) (by decide +kernel)) rfl
theorem wd_1_133 : (Jvm.Cond.instanceMethod ({ cls := "AppendStore$Merger", name := "<init>", desc := "()V" } : Jvm.MethodName)) ∈ aw_ws := aw_t1 (List.mem_of_getElem? (i := 133) (by decide +kernel)) rfl
theorem wd_1_134 : (Jvm.Cond.code ({ cls := "AppendStore$Merger", name := "<init>", desc := "()V" } : Jvm.MethodName) prog_5_method_1_code (2 : Nat) (Option.none : Option Jvm.ClassFile.FieldType)) ∈ aw_ws := aw_t1 (List.mem_of_getElem? (i := 134) (by decide +kernel)) rfl
theorem wd_1_135 : (Jvm.Cond.methodLink "AppendStore$Merger" (3 : Nat) ({ cls := "java/lang/Object", name := "<init>", desc := "()V" } : Jvm.MethodName)) ∈ aw_ws := aw_t1 (List.mem_of_getElem? (i := 135) (by decide +kernel)) rfl
theorem wd_1_136 : (Jvm.Cond.classLink "AppendStore$Merger" (9 : Nat) "AppendStore$StoreFile") ∈ aw_ws := aw_t1 (List.mem_of_getElem? (i := 136) (by decide +kernel)) rfl
theorem wd_1_137 : (Jvm.Cond.methodLink "AppendStore$Merger" (17 : Nat) ({ cls := "AppendStore$StoreFile", name := "<init>", desc := "()V" } : Jvm.MethodName)) ∈ aw_ws := aw_t1 (List.mem_of_getElem? (i := 137) (by decide +kernel)) rfl
theorem wd_1_138 : (Jvm.Cond.fieldLink "AppendStore$Merger" (11 : Nat) "AppendStore$Merger" "outputs" "[LAppendStore$StoreFile;") ∈ aw_ws := aw_t1 (List.mem_of_getElem? (i := 138) (by decide +kernel)) rfl
theorem wd_1_139 : (Jvm.Cond.fieldLink "AppendStore$Merger" (22 : Nat) "AppendStore$Merger" "outputCount" "I") ∈ aw_ws := aw_t1 (List.mem_of_getElem? (i := 139) (by decide +kernel)) rfl
theorem wd_1_140 : (Jvm.Cond.fieldLink "AppendStore$Merger" (18 : Nat) "AppendStore$Merger" "taken" "I") ∈ aw_ws := aw_t1 (List.mem_of_getElem? (i := 140) (by decide +kernel)) rfl
theorem wd_1_141 : (Jvm.Cond.fieldLink "AppendStore$Merger" (25 : Nat) "AppendStore$Merger" "atFile" "I") ∈ aw_ws := aw_t1 (List.mem_of_getElem? (i := 141) (by decide +kernel)) rfl
theorem wd_1_142 : (Jvm.Cond.fieldLink "AppendStore$Merger" (28 : Nat) "AppendStore$Merger" "atRecord" "I") ∈ aw_ws := aw_t1 (List.mem_of_getElem? (i := 142) (by decide +kernel)) rfl
theorem wd_1_143 : (Jvm.Cond.laysFinal "AppendStore$Merger" "AppendStore$Merger" "outputs" "[LAppendStore$StoreFile;") ∈ aw_ws := aw_t1 (List.mem_of_getElem? (i := 143) (by decide +kernel)) rfl
theorem wd_1_145 : (Jvm.Cond.lays "AppendStore$Merger" "AppendStore$Merger" "outputCount" "I") ∈ aw_ws := aw_t1 (List.mem_of_getElem? (i := 145) (by decide +kernel)) rfl
theorem wd_1_147 : (Jvm.Cond.lays "AppendStore$Merger" "AppendStore$Merger" "taken" "I") ∈ aw_ws := aw_t1 (List.mem_of_getElem? (i := 147) (by decide +kernel)) rfl
theorem wd_1_149 : (Jvm.Cond.lays "AppendStore$Merger" "AppendStore$Merger" "atFile" "I") ∈ aw_ws := aw_t1 (List.mem_of_getElem? (i := 149) (by decide +kernel)) rfl
theorem wd_1_151 : (Jvm.Cond.lays "AppendStore$Merger" "AppendStore$Merger" "atRecord" "I") ∈ aw_ws := aw_t1 (List.mem_of_getElem? (i := 151) (by decide +kernel)) rfl
theorem wd_1_154 : (Jvm.Cond.fieldLink "AppendStore" (10 : Nat) "AppendStore" "shelf" "LAppendStore$Shelf;") ∈ aw_ws := aw_t1 (List.mem_of_getElem? (i := 154) (by decide +kernel)) rfl
theorem wd_1_155 : (Jvm.Cond.fieldLink "AppendStore" (19 : Nat) "AppendStore" "directory" "LAppendStore$Directory;") ∈ aw_ws := aw_t1 (List.mem_of_getElem? (i := 155) (by decide +kernel)) rfl
theorem wd_1_156 : (Jvm.Cond.fieldLink "AppendStore" (26 : Nat) "AppendStore" "merger" "LAppendStore$Merger;") ∈ aw_ws := aw_t1 (List.mem_of_getElem? (i := 156) (by decide +kernel)) rfl
theorem wd_1_157 : (Jvm.Cond.fieldLink "AppendStore" (30 : Nat) "AppendStore" "changes" "I") ∈ aw_ws := aw_t1 (List.mem_of_getElem? (i := 157) (by decide +kernel)) rfl
theorem wd_1_158 : (Jvm.Cond.fieldLink "AppendStore" (34 : Nat) "AppendStore" "closed" "Z") ∈ aw_ws := aw_t1 (List.mem_of_getElem? (i := 158) (by decide +kernel)) rfl
theorem wd_1_159 : (Jvm.Cond.laysFinal "AppendStore" "AppendStore" "shelf" "LAppendStore$Shelf;") ∈ aw_ws := aw_t1 (List.mem_of_getElem? (i := 159) (by decide +kernel)) rfl
theorem wd_1_161 : (Jvm.Cond.laysFinal "AppendStore" "AppendStore" "directory" "LAppendStore$Directory;") ∈ aw_ws := aw_t1 (List.mem_of_getElem? (i := 161) (by decide +kernel)) rfl
theorem wd_1_163 : (Jvm.Cond.laysFinal "AppendStore" "AppendStore" "merger" "LAppendStore$Merger;") ∈ aw_ws := aw_t1 (List.mem_of_getElem? (i := 163) (by decide +kernel)) rfl
theorem wd_1_165 : (Jvm.Cond.lays "AppendStore" "AppendStore" "changes" "I") ∈ aw_ws := aw_t1 (List.mem_of_getElem? (i := 165) (by decide +kernel)) rfl
theorem wd_1_167 : (Jvm.Cond.lays "AppendStore" "AppendStore" "closed" "Z") ∈ aw_ws := aw_t1 (List.mem_of_getElem? (i := 167) (by decide +kernel)) rfl
theorem wd_1_174 : (Jvm.Cond.methodLink "AppendStore" (117 : Nat) ({ cls := "AppendStore$Merger", name := "drop", desc := "()V" } : Jvm.MethodName)) ∈ aw_ws := aw_t1 (List.mem_of_getElem? (i := 174) (by decide +kernel)) rfl
theorem wd_1_175 : (Jvm.Cond.instanceMethod ({ cls := "AppendStore$Merger", name := "drop", desc := "()V" } : Jvm.MethodName)) ∈ aw_ws := aw_t1 (List.mem_of_getElem? (i := 175) (by decide +kernel)) rfl
theorem wd_1_176 : (Jvm.Cond.selects "AppendStore$Merger" ({ cls := "AppendStore$Merger", name := "drop", desc := "()V" } : Jvm.MethodName) ({ cls := "AppendStore$Merger", name := "drop", desc := "()V" } : Jvm.MethodName)) ∈ aw_ws := aw_t1 (List.mem_of_getElem? (i := 176) (by decide +kernel)) rfl
theorem wd_1_177 : (Jvm.Cond.code ({ cls := "AppendStore$Merger", name := "drop", desc := "()V" } : Jvm.MethodName) prog_5_method_4_code (1 : Nat) (Option.none : Option Jvm.ClassFile.FieldType)) ∈ aw_ws := aw_t1 (List.mem_of_getElem? (i := 177) (by decide +kernel)) rfl
theorem wd_1_178 : (Jvm.Cond.methodLink "AppendStore" (120 : Nat) ({ cls := "AppendStore$Directory", name := "clear", desc := "()V" } : Jvm.MethodName)) ∈ aw_ws := aw_t1 (List.mem_of_getElem? (i := 178) (by decide +kernel)) rfl
theorem wd_1_179 : (Jvm.Cond.instanceMethod ({ cls := "AppendStore$Directory", name := "clear", desc := "()V" } : Jvm.MethodName)) ∈ aw_ws := aw_t1 (List.mem_of_getElem? (i := 179) (by decide +kernel)) rfl
theorem wd_1_180 : (Jvm.Cond.selects "AppendStore$Directory" ({ cls := "AppendStore$Directory", name := "clear", desc := "()V" } : Jvm.MethodName) ({ cls := "AppendStore$Directory", name := "clear", desc := "()V" } : Jvm.MethodName)) ∈ aw_ws := aw_t1 (List.mem_of_getElem? (i := 180) (by decide +kernel)) rfl
theorem wd_1_181 : (Jvm.Cond.code ({ cls := "AppendStore$Directory", name := "clear", desc := "()V" } : Jvm.MethodName) prog_2_method_3_code (1 : Nat) (Option.none : Option Jvm.ClassFile.FieldType)) ∈ aw_ws := aw_t1 (List.mem_of_getElem? (i := 181) (by decide +kernel)) rfl
theorem wd_1_182 : (Jvm.Cond.methodLink "AppendStore" (123 : Nat) ({ cls := "AppendStore$Shelf", name := "sealActive", desc := "()V" } : Jvm.MethodName)) ∈ aw_ws := aw_t1 (List.mem_of_getElem? (i := 182) (by decide +kernel)) rfl
theorem wd_1_183 : (Jvm.Cond.instanceMethod ({ cls := "AppendStore$Shelf", name := "sealActive", desc := "()V" } : Jvm.MethodName)) ∈ aw_ws := aw_t1 (List.mem_of_getElem? (i := 183) (by decide +kernel)) rfl
theorem wd_1_184 : (Jvm.Cond.selects "AppendStore$Shelf" ({ cls := "AppendStore$Shelf", name := "sealActive", desc := "()V" } : Jvm.MethodName) ({ cls := "AppendStore$Shelf", name := "sealActive", desc := "()V" } : Jvm.MethodName)) ∈ aw_ws := aw_t1 (List.mem_of_getElem? (i := 184) (by decide +kernel)) rfl
theorem wd_1_185 : (Jvm.Cond.code ({ cls := "AppendStore$Shelf", name := "sealActive", desc := "()V" } : Jvm.MethodName) prog_8_method_7_code (1 : Nat) (Option.none : Option Jvm.ClassFile.FieldType)) ∈ aw_ws := aw_t1 (List.mem_of_getElem? (i := 185) (by decide +kernel)) rfl
theorem wd_1_186 : (Jvm.Cond.methodLink "AppendStore$Shelf" (49 : Nat) ({ cls := "AppendStore$Shelf", name := "syncActive", desc := "()V" } : Jvm.MethodName)) ∈ aw_ws := aw_t1 (List.mem_of_getElem? (i := 186) (by decide +kernel)) rfl
theorem wd_1_187 : (Jvm.Cond.instanceMethod ({ cls := "AppendStore$Shelf", name := "syncActive", desc := "()V" } : Jvm.MethodName)) ∈ aw_ws := aw_t1 (List.mem_of_getElem? (i := 187) (by decide +kernel)) rfl
theorem wd_1_188 : (Jvm.Cond.selects "AppendStore$Shelf" ({ cls := "AppendStore$Shelf", name := "syncActive", desc := "()V" } : Jvm.MethodName) ({ cls := "AppendStore$Shelf", name := "syncActive", desc := "()V" } : Jvm.MethodName)) ∈ aw_ws := aw_t1 (List.mem_of_getElem? (i := 188) (by decide +kernel)) rfl
theorem wd_1_189 : (Jvm.Cond.code ({ cls := "AppendStore$Shelf", name := "syncActive", desc := "()V" } : Jvm.MethodName) prog_8_method_6_code (1 : Nat) (Option.none : Option Jvm.ClassFile.FieldType)) ∈ aw_ws := aw_t1 (List.mem_of_getElem? (i := 189) (by decide +kernel)) rfl
theorem wd_1_190 : (Jvm.Cond.methodLink "AppendStore$Shelf" (46 : Nat) ({ cls := "AppendStore$StoreFile", name := "syncAll", desc := "()V" } : Jvm.MethodName)) ∈ aw_ws := aw_t1 (List.mem_of_getElem? (i := 190) (by decide +kernel)) rfl
theorem wd_1_191 : (Jvm.Cond.instanceMethod ({ cls := "AppendStore$StoreFile", name := "syncAll", desc := "()V" } : Jvm.MethodName)) ∈ aw_ws := aw_t1 (List.mem_of_getElem? (i := 191) (by decide +kernel)) rfl
theorem wd_1_192 : (Jvm.Cond.selects "AppendStore$StoreFile" ({ cls := "AppendStore$StoreFile", name := "syncAll", desc := "()V" } : Jvm.MethodName) ({ cls := "AppendStore$StoreFile", name := "syncAll", desc := "()V" } : Jvm.MethodName)) ∈ aw_ws := aw_t1 (List.mem_of_getElem? (i := 192) (by decide +kernel)) rfl
theorem wd_1_193 : (Jvm.Cond.code ({ cls := "AppendStore$StoreFile", name := "syncAll", desc := "()V" } : Jvm.MethodName) prog_9_method_9_code (1 : Nat) (Option.none : Option Jvm.ClassFile.FieldType)) ∈ aw_ws := aw_t1 (List.mem_of_getElem? (i := 193) (by decide +kernel)) rfl
theorem wd_1_194 : (Jvm.Cond.methodLink "AppendStore$StoreFile" (43 : Nat) ({ cls := "AppendStore$Octets", name := "size", desc := "()I" } : Jvm.MethodName)) ∈ aw_ws := aw_t1 (List.mem_of_getElem? (i := 194) (by decide +kernel)) rfl
theorem wd_1_195 : (Jvm.Cond.instanceMethod ({ cls := "AppendStore$Octets", name := "size", desc := "()I" } : Jvm.MethodName)) ∈ aw_ws := aw_t1 (List.mem_of_getElem? (i := 195) (by decide +kernel)) rfl
theorem wd_1_196 : (Jvm.Cond.selects "AppendStore$Octets" ({ cls := "AppendStore$Octets", name := "size", desc := "()I" } : Jvm.MethodName) ({ cls := "AppendStore$Octets", name := "size", desc := "()I" } : Jvm.MethodName)) ∈ aw_ws := aw_t1 (List.mem_of_getElem? (i := 196) (by decide +kernel)) rfl
theorem wd_1_197 : (Jvm.Cond.code ({ cls := "AppendStore$Octets", name := "size", desc := "()I" } : Jvm.MethodName) prog_6_method_2_code (1 : Nat) (Option.some Jvm.ClassFile.FieldType.int)) ∈ aw_ws := aw_t1 (List.mem_of_getElem? (i := 197) (by decide +kernel)) rfl
theorem wd_1_198 : (Jvm.Cond.methodLink "AppendStore" (126 : Nat) ({ cls := "AppendStore$Shelf", name := "count", desc := "()I" } : Jvm.MethodName)) ∈ aw_ws := aw_t1 (List.mem_of_getElem? (i := 198) (by decide +kernel)) rfl
theorem wd_1_199 : (Jvm.Cond.instanceMethod ({ cls := "AppendStore$Shelf", name := "count", desc := "()I" } : Jvm.MethodName)) ∈ aw_ws := aw_t1 (List.mem_of_getElem? (i := 199) (by decide +kernel)) rfl
theorem wd_1_200 : (Jvm.Cond.selects "AppendStore$Shelf" ({ cls := "AppendStore$Shelf", name := "count", desc := "()I" } : Jvm.MethodName) ({ cls := "AppendStore$Shelf", name := "count", desc := "()I" } : Jvm.MethodName)) ∈ aw_ws := aw_t1 (List.mem_of_getElem? (i := 200) (by decide +kernel)) rfl
theorem wd_1_201 : (Jvm.Cond.code ({ cls := "AppendStore$Shelf", name := "count", desc := "()I" } : Jvm.MethodName) prog_8_method_2_code (1 : Nat) (Option.some Jvm.ClassFile.FieldType.int)) ∈ aw_ws := aw_t1 (List.mem_of_getElem? (i := 201) (by decide +kernel)) rfl
theorem wd_1_202 : (Jvm.Cond.methodLink "AppendStore" (127 : Nat) ({ cls := "AppendStore$Shelf", name := "at", desc := "(I)LAppendStore$StoreFile;" } : Jvm.MethodName)) ∈ aw_ws := aw_t1 (List.mem_of_getElem? (i := 202) (by decide +kernel)) rfl
theorem wd_1_203 : (Jvm.Cond.instanceMethod ({ cls := "AppendStore$Shelf", name := "at", desc := "(I)LAppendStore$StoreFile;" } : Jvm.MethodName)) ∈ aw_ws := aw_t1 (List.mem_of_getElem? (i := 203) (by decide +kernel)) rfl
theorem wd_1_204 : (Jvm.Cond.selects "AppendStore$Shelf" ({ cls := "AppendStore$Shelf", name := "at", desc := "(I)LAppendStore$StoreFile;" } : Jvm.MethodName) ({ cls := "AppendStore$Shelf", name := "at", desc := "(I)LAppendStore$StoreFile;" } : Jvm.MethodName)) ∈ aw_ws := aw_t1 (List.mem_of_getElem? (i := 204) (by decide +kernel)) rfl
theorem wd_1_205 : (Jvm.Cond.code ({ cls := "AppendStore$Shelf", name := "at", desc := "(I)LAppendStore$StoreFile;" } : Jvm.MethodName) prog_8_method_3_code (2 : Nat) (Option.some (Jvm.ClassFile.FieldType.object "AppendStore$StoreFile"))) ∈ aw_ws := aw_t1 (List.mem_of_getElem? (i := 205) (by decide +kernel)) rfl
theorem wd_1_206 : (Jvm.Cond.methodLink "AppendStore" (130 : Nat) ({ cls := "AppendStore$StoreFile", name := "learn", desc := "(Z)V" } : Jvm.MethodName)) ∈ aw_ws := aw_t1 (List.mem_of_getElem? (i := 206) (by decide +kernel)) rfl
theorem wd_1_207 : (Jvm.Cond.instanceMethod ({ cls := "AppendStore$StoreFile", name := "learn", desc := "(Z)V" } : Jvm.MethodName)) ∈ aw_ws := aw_t1 (List.mem_of_getElem? (i := 207) (by decide +kernel)) rfl
theorem wd_1_208 : (Jvm.Cond.selects "AppendStore$StoreFile" ({ cls := "AppendStore$StoreFile", name := "learn", desc := "(Z)V" } : Jvm.MethodName) ({ cls := "AppendStore$StoreFile", name := "learn", desc := "(Z)V" } : Jvm.MethodName)) ∈ aw_ws := aw_t1 (List.mem_of_getElem? (i := 208) (by decide +kernel)) rfl
theorem wd_1_209 : (Jvm.Cond.code ({ cls := "AppendStore$StoreFile", name := "learn", desc := "(Z)V" } : Jvm.MethodName) prog_9_method_16_code (2 : Nat) (Option.none : Option Jvm.ClassFile.FieldType)) ∈ aw_ws := aw_t1 (List.mem_of_getElem? (i := 209) (by decide +kernel)) rfl
theorem wd_1_210 : (Jvm.Cond.methodLink "AppendStore$StoreFile" (111 : Nat) ({ cls := "AppendStore$StoreFile", name := "learnFromHint", desc := "()Z" } : Jvm.MethodName)) ∈ aw_ws := aw_t1 (List.mem_of_getElem? (i := 210) (by decide +kernel)) rfl
theorem wd_1_212 : (Jvm.Cond.instanceMethod ({ cls := "AppendStore$StoreFile", name := "learnFromHint", desc := "()Z" } : Jvm.MethodName)) ∈ aw_ws := aw_t1 (List.mem_of_getElem? (i := 212) (by decide +kernel)) rfl
theorem wd_1_213 : (Jvm.Cond.code ({ cls := "AppendStore$StoreFile", name := "learnFromHint", desc := "()Z" } : Jvm.MethodName) prog_9_method_17_code (9 : Nat) (Option.some Jvm.ClassFile.FieldType.boolean)) ∈ aw_ws := aw_t1 (List.mem_of_getElem? (i := 213) (by decide +kernel)) rfl
theorem wd_1_214 : (Jvm.Cond.methodLink "AppendStore$StoreFile" (99 : Nat) ({ cls := "AppendStore$Octets", name := "number", desc := "(II)J" } : Jvm.MethodName)) ∈ aw_ws := aw_t1 (List.mem_of_getElem? (i := 214) (by decide +kernel)) rfl
theorem wd_1_215 : (Jvm.Cond.instanceMethod ({ cls := "AppendStore$Octets", name := "number", desc := "(II)J" } : Jvm.MethodName)) ∈ aw_ws := aw_t1 (List.mem_of_getElem? (i := 215) (by decide +kernel)) rfl
theorem wd_1_216 : (Jvm.Cond.selects "AppendStore$Octets" ({ cls := "AppendStore$Octets", name := "number", desc := "(II)J" } : Jvm.MethodName) ({ cls := "AppendStore$Octets", name := "number", desc := "(II)J" } : Jvm.MethodName)) ∈ aw_ws := aw_t1 (List.mem_of_getElem? (i := 216) (by decide +kernel)) rfl
theorem wd_1_217 : (Jvm.Cond.code ({ cls := "AppendStore$Octets", name := "number", desc := "(II)J" } : Jvm.MethodName) prog_6_method_11_code (6 : Nat) (Option.some Jvm.ClassFile.FieldType.long)) ∈ aw_ws := aw_t1 (List.mem_of_getElem? (i := 217) (by decide +kernel)) rfl
theorem wd_1_218 : (Jvm.Cond.methodLink "AppendStore$Octets" (25 : Nat) ({ cls := "AppendStore$Octets", name := "at", desc := "(I)I" } : Jvm.MethodName)) ∈ aw_ws := aw_t1 (List.mem_of_getElem? (i := 218) (by decide +kernel)) rfl
theorem wd_1_219 : (Jvm.Cond.instanceMethod ({ cls := "AppendStore$Octets", name := "at", desc := "(I)I" } : Jvm.MethodName)) ∈ aw_ws := aw_t1 (List.mem_of_getElem? (i := 219) (by decide +kernel)) rfl
theorem wd_1_220 : (Jvm.Cond.selects "AppendStore$Octets" ({ cls := "AppendStore$Octets", name := "at", desc := "(I)I" } : Jvm.MethodName) ({ cls := "AppendStore$Octets", name := "at", desc := "(I)I" } : Jvm.MethodName)) ∈ aw_ws := aw_t1 (List.mem_of_getElem? (i := 220) (by decide +kernel)) rfl
theorem wd_1_221 : (Jvm.Cond.code ({ cls := "AppendStore$Octets", name := "at", desc := "(I)I" } : Jvm.MethodName) prog_6_method_5_code (2 : Nat) (Option.some Jvm.ClassFile.FieldType.int)) ∈ aw_ws := aw_t1 (List.mem_of_getElem? (i := 221) (by decide +kernel)) rfl
theorem wd_1_222 : (Jvm.Cond.methodLink "AppendStore$StoreFile" (76 : Nat) ({ cls := "AppendStore$Octets", name := "sum", desc := "(II)J" } : Jvm.MethodName)) ∈ aw_ws := aw_t1 (List.mem_of_getElem? (i := 222) (by decide +kernel)) rfl
theorem wd_1_223 : (Jvm.Cond.instanceMethod ({ cls := "AppendStore$Octets", name := "sum", desc := "(II)J" } : Jvm.MethodName)) ∈ aw_ws := aw_t1 (List.mem_of_getElem? (i := 223) (by decide +kernel)) rfl
theorem wd_1_224 : (Jvm.Cond.selects "AppendStore$Octets" ({ cls := "AppendStore$Octets", name := "sum", desc := "(II)J" } : Jvm.MethodName) ({ cls := "AppendStore$Octets", name := "sum", desc := "(II)J" } : Jvm.MethodName)) ∈ aw_ws := aw_t1 (List.mem_of_getElem? (i := 224) (by decide +kernel)) rfl
theorem wd_1_225 : (Jvm.Cond.code ({ cls := "AppendStore$Octets", name := "sum", desc := "(II)J" } : Jvm.MethodName) prog_6_method_13_code (6 : Nat) (Option.some Jvm.ClassFile.FieldType.long)) ∈ aw_ws := aw_t1 (List.mem_of_getElem? (i := 225) (by decide +kernel)) rfl
theorem wd_1_226 : (Jvm.Cond.constant "AppendStore$Octets" (35 : Nat) (-306674912 : Int32)) ∈ aw_ws := aw_t1 (List.mem_of_getElem? (i := 226) (by decide +kernel)) rfl
theorem wd_1_227 : (Jvm.Cond.constantLong "AppendStore$Octets" (36 : Nat) (4294967295 : Int64)) ∈ aw_ws := aw_t1 (List.mem_of_getElem? (i := 227) (by decide +kernel)) rfl
theorem wd_1_228 : (Jvm.Cond.methodLink "AppendStore$StoreFile" (118 : Nat) ({ cls := "AppendStore$Octets", name := "at", desc := "(I)I" } : Jvm.MethodName)) ∈ aw_ws := aw_t1 (List.mem_of_getElem? (i := 228) (by decide +kernel)) rfl
theorem wd_1_229 : (Jvm.Cond.methodLink "AppendStore$StoreFile" (121 : Nat) ({ cls := "AppendStore$Layout", name := "isKeySize", desc := "(I)Z" } : Jvm.MethodName)) ∈ aw_ws := aw_t1 (List.mem_of_getElem? (i := 229) (by decide +kernel)) rfl
theorem wd_1_230 : (Jvm.Cond.static ({ cls := "AppendStore$Layout", name := "isKeySize", desc := "(I)Z" } : Jvm.MethodName)) ∈ aw_ws := aw_t1 (List.mem_of_getElem? (i := 230) (by decide +kernel)) rfl
theorem wd_1_231 : (Jvm.Cond.code ({ cls := "AppendStore$Layout", name := "isKeySize", desc := "(I)Z" } : Jvm.MethodName) prog_4_method_4_code (1 : Nat) (Option.some Jvm.ClassFile.FieldType.boolean)) ∈ aw_ws := aw_t1 (List.mem_of_getElem? (i := 231) (by decide +kernel)) rfl
theorem wd_1_232 : (Jvm.Cond.methodLink "AppendStore$StoreFile" (125 : Nat) ({ cls := "AppendStore$Layout", name := "isValueSize", desc := "(I)Z" } : Jvm.MethodName)) ∈ aw_ws := aw_t1 (List.mem_of_getElem? (i := 232) (by decide +kernel)) rfl
theorem wd_1_233 : (Jvm.Cond.static ({ cls := "AppendStore$Layout", name := "isValueSize", desc := "(I)Z" } : Jvm.MethodName)) ∈ aw_ws := aw_t1 (List.mem_of_getElem? (i := 233) (by decide +kernel)) rfl
theorem wd_1_234 : (Jvm.Cond.code ({ cls := "AppendStore$Layout", name := "isValueSize", desc := "(I)Z" } : Jvm.MethodName) prog_4_method_5_code (1 : Nat) (Option.some Jvm.ClassFile.FieldType.boolean)) ∈ aw_ws := aw_t1 (List.mem_of_getElem? (i := 234) (by decide +kernel)) rfl
theorem wd_1_235 : (Jvm.Cond.methodLink "AppendStore$StoreFile" (128 : Nat) ({ cls := "AppendStore$Key", name := "rank", desc := "(JI)J" } : Jvm.MethodName)) ∈ aw_ws := aw_t1 (List.mem_of_getElem? (i := 235) (by decide +kernel)) rfl
theorem wd_1_236 : (Jvm.Cond.static ({ cls := "AppendStore$Key", name := "rank", desc := "(JI)J" } : Jvm.MethodName)) ∈ aw_ws := aw_t1 (List.mem_of_getElem? (i := 236) (by decide +kernel)) rfl
theorem wd_1_237 : (Jvm.Cond.code ({ cls := "AppendStore$Key", name := "rank", desc := "(JI)J" } : Jvm.MethodName) prog_3_method_2_code (5 : Nat) (Option.some Jvm.ClassFile.FieldType.long)) ∈ aw_ws := aw_t1 (List.mem_of_getElem? (i := 237) (by decide +kernel)) rfl
theorem wd_1_238 : (Jvm.Cond.methodLink "AppendStore$Key" (7 : Nat) ({ cls := "AppendStore$Key", name := "missingBits", desc := "(I)I" } : Jvm.MethodName)) ∈ aw_ws := aw_t1 (List.mem_of_getElem? (i := 238) (by decide +kernel)) rfl
theorem wd_1_239 : (Jvm.Cond.static ({ cls := "AppendStore$Key", name := "missingBits", desc := "(I)I" } : Jvm.MethodName)) ∈ aw_ws := aw_t1 (List.mem_of_getElem? (i := 239) (by decide +kernel)) rfl
theorem wd_2_0 : (Jvm.Cond.code ({ cls := "AppendStore$Key", name := "missingBits", desc := "(I)I" } : Jvm.MethodName) prog_3_method_5_code (1 : Nat) (Option.some Jvm.ClassFile.FieldType.int)) ∈ aw_ws := aw_t2 (List.mem_of_getElem? (i := 0) (by decide +kernel)) rfl
theorem wd_2_1 : (Jvm.Cond.methodLink "AppendStore$StoreFile" (84 : Nat) ({ cls := "AppendStore$StoreFile", name := "note", desc := "(IJILAppendStore$Rec;)LAppendStore$Rec;" } : Jvm.MethodName)) ∈ aw_ws := aw_t2 (List.mem_of_getElem? (i := 1) (by decide +kernel)) rfl
theorem wd_2_3 : (Jvm.Cond.instanceMethod ({ cls := "AppendStore$StoreFile", name := "note", desc := "(IJILAppendStore$Rec;)LAppendStore$Rec;" } : Jvm.MethodName)) ∈ aw_ws := aw_t2 (List.mem_of_getElem? (i := 3) (by decide +kernel)) rfl
theorem wd_2_4 : (Jvm.Cond.code ({ cls := "AppendStore$StoreFile", name := "note", desc := "(IJILAppendStore$Rec;)LAppendStore$Rec;" } : Jvm.MethodName) prog_9_method_20_code (7 : Nat) (Option.some (Jvm.ClassFile.FieldType.object "AppendStore$Rec"))) ∈ aw_ws := aw_t2 (List.mem_of_getElem? (i := 4) (by decide +kernel)) rfl
theorem wd_2_5 : (Jvm.Cond.methodLink "AppendStore$StoreFile" (131 : Nat) ({ cls := "AppendStore$Layout", name := "recordBytes", desc := "(II)I" } : Jvm.MethodName)) ∈ aw_ws := aw_t2 (List.mem_of_getElem? (i := 5) (by decide +kernel)) rfl
theorem wd_2_6 : (Jvm.Cond.static ({ cls := "AppendStore$Layout", name := "recordBytes", desc := "(II)I" } : Jvm.MethodName)) ∈ aw_ws := aw_t2 (List.mem_of_getElem? (i := 6) (by decide +kernel)) rfl
theorem wd_2_7 : (Jvm.Cond.code ({ cls := "AppendStore$Layout", name := "recordBytes", desc := "(II)I" } : Jvm.MethodName) prog_4_method_3_code (2 : Nat) (Option.some Jvm.ClassFile.FieldType.int)) ∈ aw_ws := aw_t2 (List.mem_of_getElem? (i := 7) (by decide +kernel)) rfl
theorem wd_2_8 : (Jvm.Cond.methodLink "AppendStore$Layout" (9 : Nat) ({ cls := "AppendStore$Layout", name := "valueBytes", desc := "(I)I" } : Jvm.MethodName)) ∈ aw_ws := aw_t2 (List.mem_of_getElem? (i := 8) (by decide +kernel)) rfl
theorem wd_2_9 : (Jvm.Cond.static ({ cls := "AppendStore$Layout", name := "valueBytes", desc := "(I)I" } : Jvm.MethodName)) ∈ aw_ws := aw_t2 (List.mem_of_getElem? (i := 9) (by decide +kernel)) rfl
theorem wd_2_10 : (Jvm.Cond.code ({ cls := "AppendStore$Layout", name := "valueBytes", desc := "(I)I" } : Jvm.MethodName) prog_4_method_2_code (1 : Nat) (Option.some Jvm.ClassFile.FieldType.int)) ∈ aw_ws := aw_t2 (List.mem_of_getElem? (i := 10) (by decide +kernel)) rfl
theorem wd_2_11 : (Jvm.Cond.methodLink "AppendStore$StoreFile" (115 : Nat) ({ cls := "AppendStore$StoreFile", name := "learnFromBytes", desc := "()V" } : Jvm.MethodName)) ∈ aw_ws := aw_t2 (List.mem_of_getElem? (i := 11) (by decide +kernel)) rfl
theorem wd_2_13 : (Jvm.Cond.instanceMethod ({ cls := "AppendStore$StoreFile", name := "learnFromBytes", desc := "()V" } : Jvm.MethodName)) ∈ aw_ws := aw_t2 (List.mem_of_getElem? (i := 13) (by decide +kernel)) rfl
theorem wd_2_14 : (Jvm.Cond.code ({ cls := "AppendStore$StoreFile", name := "learnFromBytes", desc := "()V" } : Jvm.MethodName) prog_9_method_18_code (7 : Nat) (Option.none : Option Jvm.ClassFile.FieldType)) ∈ aw_ws := aw_t2 (List.mem_of_getElem? (i := 14) (by decide +kernel)) rfl
theorem wd_2_15 : (Jvm.Cond.methodLink "AppendStore$StoreFile" (135 : Nat) ({ cls := "AppendStore$StoreFile", name := "soundSize", desc := "(I)I" } : Jvm.MethodName)) ∈ aw_ws := aw_t2 (List.mem_of_getElem? (i := 15) (by decide +kernel)) rfl
theorem wd_2_17 : (Jvm.Cond.instanceMethod ({ cls := "AppendStore$StoreFile", name := "soundSize", desc := "(I)I" } : Jvm.MethodName)) ∈ aw_ws := aw_t2 (List.mem_of_getElem? (i := 17) (by decide +kernel)) rfl
theorem wd_2_18 : (Jvm.Cond.code ({ cls := "AppendStore$StoreFile", name := "soundSize", desc := "(I)I" } : Jvm.MethodName) prog_9_method_19_code (6 : Nat) (Option.some Jvm.ClassFile.FieldType.int)) ∈ aw_ws := aw_t2 (List.mem_of_getElem? (i := 18) (by decide +kernel)) rfl
theorem wd_2_19 : (Jvm.Cond.methodLink "AppendStore$StoreFile" (138 : Nat) ({ cls := "AppendStore$StoreFile", name := "hasRightSum", desc := "(II)Z" } : Jvm.MethodName)) ∈ aw_ws := aw_t2 (List.mem_of_getElem? (i := 19) (by decide +kernel)) rfl
theorem wd_2_20 : (Jvm.Cond.instanceMethod ({ cls := "AppendStore$StoreFile", name := "hasRightSum", desc := "(II)Z" } : Jvm.MethodName)) ∈ aw_ws := aw_t2 (List.mem_of_getElem? (i := 20) (by decide +kernel)) rfl
theorem wd_2_21 : (Jvm.Cond.selects "AppendStore$StoreFile" ({ cls := "AppendStore$StoreFile", name := "hasRightSum", desc := "(II)Z" } : Jvm.MethodName) ({ cls := "AppendStore$StoreFile", name := "hasRightSum", desc := "(II)Z" } : Jvm.MethodName)) ∈ aw_ws := aw_t2 (List.mem_of_getElem? (i := 21) (by decide +kernel)) rfl
theorem wd_2_22 : (Jvm.Cond.code ({ cls := "AppendStore$StoreFile", name := "hasRightSum", desc := "(II)Z" } : Jvm.MethodName) prog_9_method_14_code (3 : Nat) (Option.some Jvm.ClassFile.FieldType.boolean)) ∈ aw_ws := aw_t2 (List.mem_of_getElem? (i := 22) (by decide +kernel)) rfl
theorem wd_2_23 : (Jvm.Cond.methodLink "AppendStore$StoreFile" (30 : Nat) ({ cls := "AppendStore$Octets", name := "cutTo", desc := "(I)V" } : Jvm.MethodName)) ∈ aw_ws := aw_t2 (List.mem_of_getElem? (i := 23) (by decide +kernel)) rfl
theorem wd_2_24 : (Jvm.Cond.instanceMethod ({ cls := "AppendStore$Octets", name := "cutTo", desc := "(I)V" } : Jvm.MethodName)) ∈ aw_ws := aw_t2 (List.mem_of_getElem? (i := 24) (by decide +kernel)) rfl
theorem wd_2_25 : (Jvm.Cond.selects "AppendStore$Octets" ({ cls := "AppendStore$Octets", name := "cutTo", desc := "(I)V" } : Jvm.MethodName) ({ cls := "AppendStore$Octets", name := "cutTo", desc := "(I)V" } : Jvm.MethodName)) ∈ aw_ws := aw_t2 (List.mem_of_getElem? (i := 25) (by decide +kernel)) rfl
theorem wd_2_26 : (Jvm.Cond.code ({ cls := "AppendStore$Octets", name := "cutTo", desc := "(I)V" } : Jvm.MethodName) prog_6_method_7_code (2 : Nat) (Option.none : Option Jvm.ClassFile.FieldType)) ∈ aw_ws := aw_t2 (List.mem_of_getElem? (i := 26) (by decide +kernel)) rfl
theorem wd_2_27 : (Jvm.Cond.methodLink "AppendStore$StoreFile" (47 : Nat) ({ cls := "AppendStore$StoreFile", name := "syncAll", desc := "()V" } : Jvm.MethodName)) ∈ aw_ws := aw_t2 (List.mem_of_getElem? (i := 27) (by decide +kernel)) rfl
theorem wd_2_28 : (Jvm.Cond.methodLink "AppendStore" (136 : Nat) ({ cls := "AppendStore", name := "enter", desc := "(LAppendStore$StoreFile;)V" } : Jvm.MethodName)) ∈ aw_ws := aw_t2 (List.mem_of_getElem? (i := 28) (by decide +kernel)) rfl
theorem wd_2_30 : (Jvm.Cond.instanceMethod ({ cls := "AppendStore", name := "enter", desc := "(LAppendStore$StoreFile;)V" } : Jvm.MethodName)) ∈ aw_ws := aw_t2 (List.mem_of_getElem? (i := 30) (by decide +kernel)) rfl
theorem wd_2_31 : (Jvm.Cond.code ({ cls := "AppendStore", name := "enter", desc := "(LAppendStore$StoreFile;)V" } : Jvm.MethodName) prog_1_method_19_code (4 : Nat) (Option.none : Option Jvm.ClassFile.FieldType)) ∈ aw_ws := aw_t2 (List.mem_of_getElem? (i := 31) (by decide +kernel)) rfl
theorem wd_2_32 : (Jvm.Cond.methodLink "AppendStore" (228 : Nat) ({ cls := "AppendStore$StoreFile", name := "recordCount", desc := "()I" } : Jvm.MethodName)) ∈ aw_ws := aw_t2 (List.mem_of_getElem? (i := 32) (by decide +kernel)) rfl
theorem wd_2_33 : (Jvm.Cond.instanceMethod ({ cls := "AppendStore$StoreFile", name := "recordCount", desc := "()I" } : Jvm.MethodName)) ∈ aw_ws := aw_t2 (List.mem_of_getElem? (i := 33) (by decide +kernel)) rfl
theorem wd_2_34 : (Jvm.Cond.selects "AppendStore$StoreFile" ({ cls := "AppendStore$StoreFile", name := "recordCount", desc := "()I" } : Jvm.MethodName) ({ cls := "AppendStore$StoreFile", name := "recordCount", desc := "()I" } : Jvm.MethodName)) ∈ aw_ws := aw_t2 (List.mem_of_getElem? (i := 34) (by decide +kernel)) rfl
theorem wd_2_35 : (Jvm.Cond.code ({ cls := "AppendStore$StoreFile", name := "recordCount", desc := "()I" } : Jvm.MethodName) prog_9_method_7_code (1 : Nat) (Option.some Jvm.ClassFile.FieldType.int)) ∈ aw_ws := aw_t2 (List.mem_of_getElem? (i := 35) (by decide +kernel)) rfl
theorem wd_2_36 : (Jvm.Cond.methodLink "AppendStore" (231 : Nat) ({ cls := "AppendStore$StoreFile", name := "record", desc := "(I)LAppendStore$Rec;" } : Jvm.MethodName)) ∈ aw_ws := aw_t2 (List.mem_of_getElem? (i := 36) (by decide +kernel)) rfl
theorem wd_2_37 : (Jvm.Cond.instanceMethod ({ cls := "AppendStore$StoreFile", name := "record", desc := "(I)LAppendStore$Rec;" } : Jvm.MethodName)) ∈ aw_ws := aw_t2 (List.mem_of_getElem? (i := 37) (by decide +kernel)) rfl
theorem wd_2_38 : (Jvm.Cond.selects "AppendStore$StoreFile" ({ cls := "AppendStore$StoreFile", name := "record", desc := "(I)LAppendStore$Rec;" } : Jvm.MethodName) ({ cls := "AppendStore$StoreFile", name := "record", desc := "(I)LAppendStore$Rec;" } : Jvm.MethodName)) ∈ aw_ws := aw_t2 (List.mem_of_getElem? (i := 38) (by decide +kernel)) rfl
theorem wd_2_39 : (Jvm.Cond.code ({ cls := "AppendStore$StoreFile", name := "record", desc := "(I)LAppendStore$Rec;" } : Jvm.MethodName) prog_9_method_8_code (2 : Nat) (Option.some (Jvm.ClassFile.FieldType.object "AppendStore$Rec"))) ∈ aw_ws := aw_t2 (List.mem_of_getElem? (i := 39) (by decide +kernel)) rfl
theorem wd_2_40 : (Jvm.Cond.methodLink "AppendStore" (224 : Nat) ({ cls := "AppendStore$Directory", name := "enter", desc := "(LAppendStore$Rec;)V" } : Jvm.MethodName)) ∈ aw_ws := aw_t2 (List.mem_of_getElem? (i := 40) (by decide +kernel)) rfl
theorem wd_2_41 : (Jvm.Cond.instanceMethod ({ cls := "AppendStore$Directory", name := "enter", desc := "(LAppendStore$Rec;)V" } : Jvm.MethodName)) ∈ aw_ws := aw_t2 (List.mem_of_getElem? (i := 41) (by decide +kernel)) rfl
theorem wd_2_42 : (Jvm.Cond.selects "AppendStore$Directory" ({ cls := "AppendStore$Directory", name := "enter", desc := "(LAppendStore$Rec;)V" } : Jvm.MethodName) ({ cls := "AppendStore$Directory", name := "enter", desc := "(LAppendStore$Rec;)V" } : Jvm.MethodName)) ∈ aw_ws := aw_t2 (List.mem_of_getElem? (i := 42) (by decide +kernel)) rfl
theorem wd_2_43 : (Jvm.Cond.code ({ cls := "AppendStore$Directory", name := "enter", desc := "(LAppendStore$Rec;)V" } : Jvm.MethodName) prog_2_method_7_code (5 : Nat) (Option.none : Option Jvm.ClassFile.FieldType)) ∈ aw_ws := aw_t2 (List.mem_of_getElem? (i := 43) (by decide +kernel)) rfl
theorem wd_2_44 : (Jvm.Cond.methodLink "AppendStore$Directory" (23 : Nat) ({ cls := "AppendStore$Directory", name := "firstFrom", desc := "(J)I" } : Jvm.MethodName)) ∈ aw_ws := aw_t2 (List.mem_of_getElem? (i := 44) (by decide +kernel)) rfl
theorem wd_2_46 : (Jvm.Cond.instanceMethod ({ cls := "AppendStore$Directory", name := "firstFrom", desc := "(J)I" } : Jvm.MethodName)) ∈ aw_ws := aw_t2 (List.mem_of_getElem? (i := 46) (by decide +kernel)) rfl
theorem wd_2_47 : (Jvm.Cond.code ({ cls := "AppendStore$Directory", name := "firstFrom", desc := "(J)I" } : Jvm.MethodName) prog_2_method_9_code (4 : Nat) (Option.some Jvm.ClassFile.FieldType.int)) ∈ aw_ws := aw_t2 (List.mem_of_getElem? (i := 47) (by decide +kernel)) rfl
theorem wd_2_48 : (Jvm.Cond.methodLink "AppendStore$Directory" (27 : Nat) ({ cls := "AppendStore$Directory", name := "at", desc := "(I)LAppendStore$Rec;" } : Jvm.MethodName)) ∈ aw_ws := aw_t2 (List.mem_of_getElem? (i := 48) (by decide +kernel)) rfl
theorem wd_2_49 : (Jvm.Cond.instanceMethod ({ cls := "AppendStore$Directory", name := "at", desc := "(I)LAppendStore$Rec;" } : Jvm.MethodName)) ∈ aw_ws := aw_t2 (List.mem_of_getElem? (i := 49) (by decide +kernel)) rfl
theorem wd_2_50 : (Jvm.Cond.selects "AppendStore$Directory" ({ cls := "AppendStore$Directory", name := "at", desc := "(I)LAppendStore$Rec;" } : Jvm.MethodName) ({ cls := "AppendStore$Directory", name := "at", desc := "(I)LAppendStore$Rec;" } : Jvm.MethodName)) ∈ aw_ws := aw_t2 (List.mem_of_getElem? (i := 50) (by decide +kernel)) rfl
theorem wd_2_51 : (Jvm.Cond.code ({ cls := "AppendStore$Directory", name := "at", desc := "(I)LAppendStore$Rec;" } : Jvm.MethodName) prog_2_method_4_code (2 : Nat) (Option.some (Jvm.ClassFile.FieldType.object "AppendStore$Rec"))) ∈ aw_ws := aw_t2 (List.mem_of_getElem? (i := 51) (by decide +kernel)) rfl
theorem wd_2_52 : (Jvm.Cond.methodLink "AppendStore$Directory" (39 : Nat) ({ cls := "AppendStore$Rec", name := "isTombstone", desc := "()Z" } : Jvm.MethodName)) ∈ aw_ws := aw_t2 (List.mem_of_getElem? (i := 52) (by decide +kernel)) rfl
theorem wd_2_53 : (Jvm.Cond.instanceMethod ({ cls := "AppendStore$Rec", name := "isTombstone", desc := "()Z" } : Jvm.MethodName)) ∈ aw_ws := aw_t2 (List.mem_of_getElem? (i := 53) (by decide +kernel)) rfl
theorem wd_2_54 : (Jvm.Cond.selects "AppendStore$Rec" ({ cls := "AppendStore$Rec", name := "isTombstone", desc := "()Z" } : Jvm.MethodName) ({ cls := "AppendStore$Rec", name := "isTombstone", desc := "()Z" } : Jvm.MethodName)) ∈ aw_ws := aw_t2 (List.mem_of_getElem? (i := 54) (by decide +kernel)) rfl
theorem wd_2_55 : (Jvm.Cond.code ({ cls := "AppendStore$Rec", name := "isTombstone", desc := "()Z" } : Jvm.MethodName) prog_7_method_2_code (1 : Nat) (Option.some Jvm.ClassFile.FieldType.boolean)) ∈ aw_ws := aw_t2 (List.mem_of_getElem? (i := 55) (by decide +kernel)) rfl
theorem wd_2_56 : (Jvm.Cond.methodLink "AppendStore$Directory" (43 : Nat) ({ cls := "AppendStore$Directory", name := "takeOut", desc := "(I)V" } : Jvm.MethodName)) ∈ aw_ws := aw_t2 (List.mem_of_getElem? (i := 56) (by decide +kernel)) rfl
theorem wd_2_58 : (Jvm.Cond.instanceMethod ({ cls := "AppendStore$Directory", name := "takeOut", desc := "(I)V" } : Jvm.MethodName)) ∈ aw_ws := aw_t2 (List.mem_of_getElem? (i := 58) (by decide +kernel)) rfl
theorem wd_2_59 : (Jvm.Cond.code ({ cls := "AppendStore$Directory", name := "takeOut", desc := "(I)V" } : Jvm.MethodName) prog_2_method_11_code (3 : Nat) (Option.none : Option Jvm.ClassFile.FieldType)) ∈ aw_ws := aw_t2 (List.mem_of_getElem? (i := 59) (by decide +kernel)) rfl
theorem wd_2_60 : (Jvm.Cond.methodLink "AppendStore$Directory" (47 : Nat) ({ cls := "AppendStore$Directory", name := "insert", desc := "(ILAppendStore$Rec;)V" } : Jvm.MethodName)) ∈ aw_ws := aw_t2 (List.mem_of_getElem? (i := 60) (by decide +kernel)) rfl
theorem wd_2_62 : (Jvm.Cond.instanceMethod ({ cls := "AppendStore$Directory", name := "insert", desc := "(ILAppendStore$Rec;)V" } : Jvm.MethodName)) ∈ aw_ws := aw_t2 (List.mem_of_getElem? (i := 62) (by decide +kernel)) rfl
theorem wd_2_63 : (Jvm.Cond.code ({ cls := "AppendStore$Directory", name := "insert", desc := "(ILAppendStore$Rec;)V" } : Jvm.MethodName) prog_2_method_10_code (4 : Nat) (Option.none : Option Jvm.ClassFile.FieldType)) ∈ aw_ws := aw_t2 (List.mem_of_getElem? (i := 63) (by decide +kernel)) rfl
theorem wd_2_64 : (Jvm.Cond.methodLink "AppendStore" (83 : Nat) ({ cls := "AppendStore$Directory", name := "count", desc := "()I" } : Jvm.MethodName)) ∈ aw_ws := aw_t2 (List.mem_of_getElem? (i := 64) (by decide +kernel)) rfl
theorem wd_2_65 : (Jvm.Cond.instanceMethod ({ cls := "AppendStore$Directory", name := "count", desc := "()I" } : Jvm.MethodName)) ∈ aw_ws := aw_t2 (List.mem_of_getElem? (i := 65) (by decide +kernel)) rfl
theorem wd_2_66 : (Jvm.Cond.selects "AppendStore$Directory" ({ cls := "AppendStore$Directory", name := "count", desc := "()I" } : Jvm.MethodName) ({ cls := "AppendStore$Directory", name := "count", desc := "()I" } : Jvm.MethodName)) ∈ aw_ws := aw_t2 (List.mem_of_getElem? (i := 66) (by decide +kernel)) rfl
theorem wd_2_67 : (Jvm.Cond.code ({ cls := "AppendStore$Directory", name := "count", desc := "()I" } : Jvm.MethodName) prog_2_method_2_code (1 : Nat) (Option.some Jvm.ClassFile.FieldType.int)) ∈ aw_ws := aw_t2 (List.mem_of_getElem? (i := 67) (by decide +kernel)) rfl
theorem wd_2_179 : (Jvm.Cond.static ({ cls := "AppendStore$Key", name := "size", desc := "(J)I" } : Jvm.MethodName)) ∈ aw_ws := aw_t2 (List.mem_of_getElem? (i := 179) (by decide +kernel)) rfl
theorem wd_2_180 : (Jvm.Cond.code ({ cls := "AppendStore$Key", name := "size", desc := "(J)I" } : Jvm.MethodName) prog_3_method_3_code (2 : Nat) (Option.some Jvm.ClassFile.FieldType.int)) ∈ aw_ws := aw_t2 (List.mem_of_getElem? (i := 180) (by decide +kernel)) rfl
theorem wd_2_181 : (Jvm.Cond.constantLong "AppendStore$Key" (13 : Nat) (7 : Int64)) ∈ aw_ws := aw_t2 (List.mem_of_getElem? (i := 181) (by decide +kernel)) rfl
theorem wd_2_187 : (Jvm.Cond.methodLink "AppendStore$Shelf" (29 : Nat) ({ cls := "AppendStore$StoreFile", name := "bytes", desc := "()LAppendStore$Octets;" } : Jvm.MethodName)) ∈ aw_ws := aw_t2 (List.mem_of_getElem? (i := 187) (by decide +kernel)) rfl
theorem wd_2_188 : (Jvm.Cond.instanceMethod ({ cls := "AppendStore$StoreFile", name := "bytes", desc := "()LAppendStore$Octets;" } : Jvm.MethodName)) ∈ aw_ws := aw_t2 (List.mem_of_getElem? (i := 188) (by decide +kernel)) rfl
theorem wd_2_189 : (Jvm.Cond.selects "AppendStore$StoreFile" ({ cls := "AppendStore$StoreFile", name := "bytes", desc := "()LAppendStore$Octets;" } : Jvm.MethodName) ({ cls := "AppendStore$StoreFile", name := "bytes", desc := "()LAppendStore$Octets;" } : Jvm.MethodName)) ∈ aw_ws := aw_t2 (List.mem_of_getElem? (i := 189) (by decide +kernel)) rfl
theorem wd_2_190 : (Jvm.Cond.code ({ cls := "AppendStore$StoreFile", name := "bytes", desc := "()LAppendStore$Octets;" } : Jvm.MethodName) prog_9_method_5_code (1 : Nat) (Option.some (Jvm.ClassFile.FieldType.object "AppendStore$Octets"))) ∈ aw_ws := aw_t2 (List.mem_of_getElem? (i := 190) (by decide +kernel)) rfl
theorem wd_2_191 : (Jvm.Cond.methodLink "AppendStore$Shelf" (33 : Nat) ({ cls := "AppendStore$Octets", name := "hasRoomFor", desc := "(I)Z" } : Jvm.MethodName)) ∈ aw_ws := aw_t2 (List.mem_of_getElem? (i := 191) (by decide +kernel)) rfl
theorem wd_2_192 : (Jvm.Cond.instanceMethod ({ cls := "AppendStore$Octets", name := "hasRoomFor", desc := "(I)Z" } : Jvm.MethodName)) ∈ aw_ws := aw_t2 (List.mem_of_getElem? (i := 192) (by decide +kernel)) rfl
theorem wd_2_193 : (Jvm.Cond.selects "AppendStore$Octets" ({ cls := "AppendStore$Octets", name := "hasRoomFor", desc := "(I)Z" } : Jvm.MethodName) ({ cls := "AppendStore$Octets", name := "hasRoomFor", desc := "(I)Z" } : Jvm.MethodName)) ∈ aw_ws := aw_t2 (List.mem_of_getElem? (i := 193) (by decide +kernel)) rfl
theorem wd_2_194 : (Jvm.Cond.code ({ cls := "AppendStore$Octets", name := "hasRoomFor", desc := "(I)Z" } : Jvm.MethodName) prog_6_method_4_code (2 : Nat) (Option.some Jvm.ClassFile.FieldType.boolean)) ∈ aw_ws := aw_t2 (List.mem_of_getElem? (i := 194) (by decide +kernel)) rfl
theorem wd_2_195 : (Jvm.Cond.methodLink "AppendStore$Shelf" (39 : Nat) ({ cls := "AppendStore$Shelf", name := "sealActive", desc := "()V" } : Jvm.MethodName)) ∈ aw_ws := aw_t2 (List.mem_of_getElem? (i := 195) (by decide +kernel)) rfl
theorem wd_2_196 : (Jvm.Cond.methodLink "AppendStore$Shelf" (42 : Nat) ({ cls := "AppendStore$StoreFile", name := "begin", desc := "(I)V" } : Jvm.MethodName)) ∈ aw_ws := aw_t2 (List.mem_of_getElem? (i := 196) (by decide +kernel)) rfl
theorem wd_2_197 : (Jvm.Cond.instanceMethod ({ cls := "AppendStore$StoreFile", name := "begin", desc := "(I)V" } : Jvm.MethodName)) ∈ aw_ws := aw_t2 (List.mem_of_getElem? (i := 197) (by decide +kernel)) rfl
theorem wd_2_198 : (Jvm.Cond.selects "AppendStore$StoreFile" ({ cls := "AppendStore$StoreFile", name := "begin", desc := "(I)V" } : Jvm.MethodName) ({ cls := "AppendStore$StoreFile", name := "begin", desc := "(I)V" } : Jvm.MethodName)) ∈ aw_ws := aw_t2 (List.mem_of_getElem? (i := 198) (by decide +kernel)) rfl
theorem wd_2_199 : (Jvm.Cond.code ({ cls := "AppendStore$StoreFile", name := "begin", desc := "(I)V" } : Jvm.MethodName) prog_9_method_2_code (2 : Nat) (Option.none : Option Jvm.ClassFile.FieldType)) ∈ aw_ws := aw_t2 (List.mem_of_getElem? (i := 199) (by decide +kernel)) rfl
theorem wd_2_220 : (Jvm.Cond.methodLink "AppendStore$StoreFile" (57 : Nat) ({ cls := "AppendStore$Key", name := "size", desc := "(J)I" } : Jvm.MethodName)) ∈ aw_ws := aw_t2 (List.mem_of_getElem? (i := 220) (by decide +kernel)) rfl
theorem wd_2_221 : (Jvm.Cond.methodLink "AppendStore$StoreFile" (62 : Nat) ({ cls := "AppendStore$Octets", name := "addNumber", desc := "(JI)V" } : Jvm.MethodName)) ∈ aw_ws := aw_t2 (List.mem_of_getElem? (i := 221) (by decide +kernel)) rfl
theorem wd_2_222 : (Jvm.Cond.instanceMethod ({ cls := "AppendStore$Octets", name := "addNumber", desc := "(JI)V" } : Jvm.MethodName)) ∈ aw_ws := aw_t2 (List.mem_of_getElem? (i := 222) (by decide +kernel)) rfl
theorem wd_2_223 : (Jvm.Cond.selects "AppendStore$Octets" ({ cls := "AppendStore$Octets", name := "addNumber", desc := "(JI)V" } : Jvm.MethodName) ({ cls := "AppendStore$Octets", name := "addNumber", desc := "(JI)V" } : Jvm.MethodName)) ∈ aw_ws := aw_t2 (List.mem_of_getElem? (i := 223) (by decide +kernel)) rfl
theorem wd_2_224 : (Jvm.Cond.code ({ cls := "AppendStore$Octets", name := "addNumber", desc := "(JI)V" } : Jvm.MethodName) prog_6_method_9_code (5 : Nat) (Option.none : Option Jvm.ClassFile.FieldType)) ∈ aw_ws := aw_t2 (List.mem_of_getElem? (i := 224) (by decide +kernel)) rfl
theorem wd_2_225 : (Jvm.Cond.methodLink "AppendStore$Octets" (21 : Nat) ({ cls := "AppendStore$Octets", name := "addByte", desc := "(I)V" } : Jvm.MethodName)) ∈ aw_ws := aw_t2 (List.mem_of_getElem? (i := 225) (by decide +kernel)) rfl
theorem wd_2_226 : (Jvm.Cond.instanceMethod ({ cls := "AppendStore$Octets", name := "addByte", desc := "(I)V" } : Jvm.MethodName)) ∈ aw_ws := aw_t2 (List.mem_of_getElem? (i := 226) (by decide +kernel)) rfl
theorem wd_2_227 : (Jvm.Cond.selects "AppendStore$Octets" ({ cls := "AppendStore$Octets", name := "addByte", desc := "(I)V" } : Jvm.MethodName) ({ cls := "AppendStore$Octets", name := "addByte", desc := "(I)V" } : Jvm.MethodName)) ∈ aw_ws := aw_t2 (List.mem_of_getElem? (i := 227) (by decide +kernel)) rfl
theorem wd_2_228 : (Jvm.Cond.code ({ cls := "AppendStore$Octets", name := "addByte", desc := "(I)V" } : Jvm.MethodName) prog_6_method_8_code (2 : Nat) (Option.none : Option Jvm.ClassFile.FieldType)) ∈ aw_ws := aw_t2 (List.mem_of_getElem? (i := 228) (by decide +kernel)) rfl
theorem wd_2_229 : (Jvm.Cond.methodLink "AppendStore$StoreFile" (66 : Nat) ({ cls := "AppendStore$Octets", name := "addByte", desc := "(I)V" } : Jvm.MethodName)) ∈ aw_ws := aw_t2 (List.mem_of_getElem? (i := 229) (by decide +kernel)) rfl
theorem wd_2_230 : (Jvm.Cond.methodLink "AppendStore$StoreFile" (69 : Nat) ({ cls := "AppendStore$Key", name := "number", desc := "(J)J" } : Jvm.MethodName)) ∈ aw_ws := aw_t2 (List.mem_of_getElem? (i := 230) (by decide +kernel)) rfl
theorem wd_2_231 : (Jvm.Cond.static ({ cls := "AppendStore$Key", name := "number", desc := "(J)J" } : Jvm.MethodName)) ∈ aw_ws := aw_t2 (List.mem_of_getElem? (i := 231) (by decide +kernel)) rfl
theorem wd_2_232 : (Jvm.Cond.code ({ cls := "AppendStore$Key", name := "number", desc := "(J)J" } : Jvm.MethodName) prog_3_method_4_code (2 : Nat) (Option.some Jvm.ClassFile.FieldType.long)) ∈ aw_ws := aw_t2 (List.mem_of_getElem? (i := 232) (by decide +kernel)) rfl
theorem wd_2_233 : (Jvm.Cond.methodLink "AppendStore$Key" (15 : Nat) ({ cls := "AppendStore$Key", name := "size", desc := "(J)I" } : Jvm.MethodName)) ∈ aw_ws := aw_t2 (List.mem_of_getElem? (i := 233) (by decide +kernel)) rfl
theorem wd_2_234 : (Jvm.Cond.methodLink "AppendStore$StoreFile" (72 : Nat) ({ cls := "AppendStore$Layout", name := "valueBytes", desc := "(I)I" } : Jvm.MethodName)) ∈ aw_ws := aw_t2 (List.mem_of_getElem? (i := 234) (by decide +kernel)) rfl
theorem wd_2_235 : (Jvm.Cond.methodLink "AppendStore$StoreFile" (80 : Nat) ({ cls := "AppendStore$Octets", name := "setSum", desc := "(IJ)V" } : Jvm.MethodName)) ∈ aw_ws := aw_t2 (List.mem_of_getElem? (i := 235) (by decide +kernel)) rfl
theorem wd_2_236 : (Jvm.Cond.instanceMethod ({ cls := "AppendStore$Octets", name := "setSum", desc := "(IJ)V" } : Jvm.MethodName)) ∈ aw_ws := aw_t2 (List.mem_of_getElem? (i := 236) (by decide +kernel)) rfl
theorem wd_2_237 : (Jvm.Cond.selects "AppendStore$Octets" ({ cls := "AppendStore$Octets", name := "setSum", desc := "(IJ)V" } : Jvm.MethodName) ({ cls := "AppendStore$Octets", name := "setSum", desc := "(IJ)V" } : Jvm.MethodName)) ∈ aw_ws := aw_t2 (List.mem_of_getElem? (i := 237) (by decide +kernel)) rfl
theorem wd_2_238 : (Jvm.Cond.code ({ cls := "AppendStore$Octets", name := "setSum", desc := "(IJ)V" } : Jvm.MethodName) prog_6_method_12_code (5 : Nat) (Option.none : Option Jvm.ClassFile.FieldType)) ∈ aw_ws := aw_t2 (List.mem_of_getElem? (i := 238) (by decide +kernel)) rfl
theorem wd_2_239 : (Jvm.Cond.methodLink "AppendStore$Octets" (31 : Nat) ({ cls := "AppendStore$Octets", name := "set", desc := "(II)V" } : Jvm.MethodName)) ∈ aw_ws := aw_t2 (List.mem_of_getElem? (i := 239) (by decide +kernel)) rfl
theorem wd_3_0 : (Jvm.Cond.instanceMethod ({ cls := "AppendStore$Octets", name := "set", desc := "(II)V" } : Jvm.MethodName)) ∈ aw_ws := aw_t3 (List.mem_of_getElem? (i := 0) (by decide +kernel)) rfl
theorem wd_3_1 : (Jvm.Cond.selects "AppendStore$Octets" ({ cls := "AppendStore$Octets", name := "set", desc := "(II)V" } : Jvm.MethodName) ({ cls := "AppendStore$Octets", name := "set", desc := "(II)V" } : Jvm.MethodName)) ∈ aw_ws := aw_t3 (List.mem_of_getElem? (i := 1) (by decide +kernel)) rfl
theorem wd_3_2 : (Jvm.Cond.code ({ cls := "AppendStore$Octets", name := "set", desc := "(II)V" } : Jvm.MethodName) prog_6_method_6_code (3 : Nat) (Option.none : Option Jvm.ClassFile.FieldType)) ∈ aw_ws := aw_t3 (List.mem_of_getElem? (i := 2) (by decide +kernel)) rfl
theorem wd_3_3 : (Jvm.Cond.methodLink "AppendStore$Octets" (17 : Nat) ({ cls := "AppendStore$Octets", name := "has", desc := "(I)Z" } : Jvm.MethodName)) ∈ aw_ws := aw_t3 (List.mem_of_getElem? (i := 3) (by decide +kernel)) rfl
theorem wd_3_4 : (Jvm.Cond.instanceMethod ({ cls := "AppendStore$Octets", name := "has", desc := "(I)Z" } : Jvm.MethodName)) ∈ aw_ws := aw_t3 (List.mem_of_getElem? (i := 4) (by decide +kernel)) rfl
theorem wd_3_5 : (Jvm.Cond.selects "AppendStore$Octets" ({ cls := "AppendStore$Octets", name := "has", desc := "(I)Z" } : Jvm.MethodName) ({ cls := "AppendStore$Octets", name := "has", desc := "(I)Z" } : Jvm.MethodName)) ∈ aw_ws := aw_t3 (List.mem_of_getElem? (i := 5) (by decide +kernel)) rfl
theorem wd_3_6 : (Jvm.Cond.code ({ cls := "AppendStore$Octets", name := "has", desc := "(I)Z" } : Jvm.MethodName) prog_6_method_3_code (2 : Nat) (Option.some Jvm.ClassFile.FieldType.boolean)) ∈ aw_ws := aw_t3 (List.mem_of_getElem? (i := 6) (by decide +kernel)) rfl
theorem wd_3_16 : (Jvm.Cond.instanceMethod ({ cls := "AppendStore$Directory", name := "find", desc := "(J)LAppendStore$Rec;" } : Jvm.MethodName)) ∈ aw_ws := aw_t3 (List.mem_of_getElem? (i := 16) (by decide +kernel)) rfl
theorem wd_3_17 : (Jvm.Cond.selects "AppendStore$Directory" ({ cls := "AppendStore$Directory", name := "find", desc := "(J)LAppendStore$Rec;" } : Jvm.MethodName) ({ cls := "AppendStore$Directory", name := "find", desc := "(J)LAppendStore$Rec;" } : Jvm.MethodName)) ∈ aw_ws := aw_t3 (List.mem_of_getElem? (i := 17) (by decide +kernel)) rfl
theorem wd_3_18 : (Jvm.Cond.code ({ cls := "AppendStore$Directory", name := "find", desc := "(J)LAppendStore$Rec;" } : Jvm.MethodName) prog_2_method_5_code (4 : Nat) (Option.some (Jvm.ClassFile.FieldType.object "AppendStore$Rec"))) ∈ aw_ws := aw_t3 (List.mem_of_getElem? (i := 18) (by decide +kernel)) rfl
theorem wd_3_47 : (Jvm.Cond.methodLink "AppendStore$Rec" (45 : Nat) ({ cls := "AppendStore$Rec", name := "size", desc := "()I" } : Jvm.MethodName)) ∈ aw_ws := aw_t3 (List.mem_of_getElem? (i := 47) (by decide +kernel)) rfl
theorem wd_3_48 : (Jvm.Cond.instanceMethod ({ cls := "AppendStore$Rec", name := "size", desc := "()I" } : Jvm.MethodName)) ∈ aw_ws := aw_t3 (List.mem_of_getElem? (i := 48) (by decide +kernel)) rfl
theorem wd_3_49 : (Jvm.Cond.selects "AppendStore$Rec" ({ cls := "AppendStore$Rec", name := "size", desc := "()I" } : Jvm.MethodName) ({ cls := "AppendStore$Rec", name := "size", desc := "()I" } : Jvm.MethodName)) ∈ aw_ws := aw_t3 (List.mem_of_getElem? (i := 49) (by decide +kernel)) rfl
theorem wd_3_50 : (Jvm.Cond.code ({ cls := "AppendStore$Rec", name := "size", desc := "()I" } : Jvm.MethodName) prog_7_method_4_code (1 : Nat) (Option.some Jvm.ClassFile.FieldType.int)) ∈ aw_ws := aw_t3 (List.mem_of_getElem? (i := 50) (by decide +kernel)) rfl
theorem wd_3_51 : (Jvm.Cond.methodLink "AppendStore$Rec" (25 : Nat) ({ cls := "AppendStore$Rec", name := "keySize", desc := "()I" } : Jvm.MethodName)) ∈ aw_ws := aw_t3 (List.mem_of_getElem? (i := 51) (by decide +kernel)) rfl
theorem wd_3_52 : (Jvm.Cond.instanceMethod ({ cls := "AppendStore$Rec", name := "keySize", desc := "()I" } : Jvm.MethodName)) ∈ aw_ws := aw_t3 (List.mem_of_getElem? (i := 52) (by decide +kernel)) rfl
theorem wd_3_53 : (Jvm.Cond.selects "AppendStore$Rec" ({ cls := "AppendStore$Rec", name := "keySize", desc := "()I" } : Jvm.MethodName) ({ cls := "AppendStore$Rec", name := "keySize", desc := "()I" } : Jvm.MethodName)) ∈ aw_ws := aw_t3 (List.mem_of_getElem? (i := 53) (by decide +kernel)) rfl
theorem wd_3_54 : (Jvm.Cond.code ({ cls := "AppendStore$Rec", name := "keySize", desc := "()I" } : Jvm.MethodName) prog_7_method_3_code (1 : Nat) (Option.some Jvm.ClassFile.FieldType.int)) ∈ aw_ws := aw_t3 (List.mem_of_getElem? (i := 54) (by decide +kernel)) rfl
theorem wd_3_55 : (Jvm.Cond.methodLink "AppendStore$Rec" (19 : Nat) ({ cls := "AppendStore$Key", name := "size", desc := "(J)I" } : Jvm.MethodName)) ∈ aw_ws := aw_t3 (List.mem_of_getElem? (i := 55) (by decide +kernel)) rfl
theorem wd_3_56 : (Jvm.Cond.methodLink "AppendStore$Rec" (29 : Nat) ({ cls := "AppendStore$Layout", name := "recordBytes", desc := "(II)I" } : Jvm.MethodName)) ∈ aw_ws := aw_t3 (List.mem_of_getElem? (i := 56) (by decide +kernel)) rfl
theorem wd_3_57 : (Jvm.Cond.methodLink "AppendStore$Rec" (47 : Nat) ({ cls := "AppendStore$StoreFile", name := "hasRightSum", desc := "(II)Z" } : Jvm.MethodName)) ∈ aw_ws := aw_t3 (List.mem_of_getElem? (i := 57) (by decide +kernel)) rfl
theorem wd_3_63 : (Jvm.Cond.methodLink "AppendStore$Rec" (51 : Nat) ({ cls := "AppendStore$StoreFile", name := "bytes", desc := "()LAppendStore$Octets;" } : Jvm.MethodName)) ∈ aw_ws := aw_t3 (List.mem_of_getElem? (i := 63) (by decide +kernel)) rfl
theorem wd_3_64 : (Jvm.Cond.methodLink "AppendStore$Rec" (55 : Nat) ({ cls := "AppendStore$Layout", name := "valueBytes", desc := "(I)I" } : Jvm.MethodName)) ∈ aw_ws := aw_t3 (List.mem_of_getElem? (i := 64) (by decide +kernel)) rfl
theorem wd_3_65 : (Jvm.Cond.methodLink "AppendStore$Rec" (59 : Nat) ({ cls := "AppendStore$Octets", name := "number", desc := "(II)J" } : Jvm.MethodName)) ∈ aw_ws := aw_t3 (List.mem_of_getElem? (i := 65) (by decide +kernel)) rfl
theorem wd_3_87 : (Jvm.Cond.methodLink "AppendStore$Rec" (37 : Nat) ({ cls := "AppendStore$StoreFile", name := "number", desc := "()I" } : Jvm.MethodName)) ∈ aw_ws := aw_t3 (List.mem_of_getElem? (i := 87) (by decide +kernel)) rfl
theorem wd_3_88 : (Jvm.Cond.instanceMethod ({ cls := "AppendStore$StoreFile", name := "number", desc := "()I" } : Jvm.MethodName)) ∈ aw_ws := aw_t3 (List.mem_of_getElem? (i := 88) (by decide +kernel)) rfl
theorem wd_3_89 : (Jvm.Cond.selects "AppendStore$StoreFile" ({ cls := "AppendStore$StoreFile", name := "number", desc := "()I" } : Jvm.MethodName) ({ cls := "AppendStore$StoreFile", name := "number", desc := "()I" } : Jvm.MethodName)) ∈ aw_ws := aw_t3 (List.mem_of_getElem? (i := 89) (by decide +kernel)) rfl
theorem wd_3_90 : (Jvm.Cond.code ({ cls := "AppendStore$StoreFile", name := "number", desc := "()I" } : Jvm.MethodName) prog_9_method_3_code (1 : Nat) (Option.some Jvm.ClassFile.FieldType.int)) ∈ aw_ws := aw_t3 (List.mem_of_getElem? (i := 90) (by decide +kernel)) rfl
theorem wd_3_110 : (Jvm.Cond.methodLink "AppendStore$Shelf" (52 : Nat) ({ cls := "AppendStore$StoreFile", name := "losePower", desc := "(I)V" } : Jvm.MethodName)) ∈ aw_ws := aw_t3 (List.mem_of_getElem? (i := 110) (by decide +kernel)) rfl
theorem wd_3_111 : (Jvm.Cond.instanceMethod ({ cls := "AppendStore$StoreFile", name := "losePower", desc := "(I)V" } : Jvm.MethodName)) ∈ aw_ws := aw_t3 (List.mem_of_getElem? (i := 111) (by decide +kernel)) rfl
theorem wd_3_112 : (Jvm.Cond.selects "AppendStore$StoreFile" ({ cls := "AppendStore$StoreFile", name := "losePower", desc := "(I)V" } : Jvm.MethodName) ({ cls := "AppendStore$StoreFile", name := "losePower", desc := "(I)V" } : Jvm.MethodName)) ∈ aw_ws := aw_t3 (List.mem_of_getElem? (i := 112) (by decide +kernel)) rfl
theorem wd_3_113 : (Jvm.Cond.code ({ cls := "AppendStore$StoreFile", name := "losePower", desc := "(I)V" } : Jvm.MethodName) prog_9_method_10_code (2 : Nat) (Option.none : Option Jvm.ClassFile.FieldType)) ∈ aw_ws := aw_t3 (List.mem_of_getElem? (i := 113) (by decide +kernel)) rfl
theorem wd_3_138 : (Jvm.Cond.methodLink "AppendStore$Merger" (31 : Nat) ({ cls := "AppendStore$Merger", name := "cameToAll", desc := "(LAppendStore$Shelf;)Z" } : Jvm.MethodName)) ∈ aw_ws := aw_t3 (List.mem_of_getElem? (i := 138) (by decide +kernel)) rfl
theorem wd_3_139 : (Jvm.Cond.instanceMethod ({ cls := "AppendStore$Merger", name := "cameToAll", desc := "(LAppendStore$Shelf;)Z" } : Jvm.MethodName)) ∈ aw_ws := aw_t3 (List.mem_of_getElem? (i := 139) (by decide +kernel)) rfl
theorem wd_3_140 : (Jvm.Cond.selects "AppendStore$Merger" ({ cls := "AppendStore$Merger", name := "cameToAll", desc := "(LAppendStore$Shelf;)Z" } : Jvm.MethodName) ({ cls := "AppendStore$Merger", name := "cameToAll", desc := "(LAppendStore$Shelf;)Z" } : Jvm.MethodName)) ∈ aw_ws := aw_t3 (List.mem_of_getElem? (i := 140) (by decide +kernel)) rfl
theorem wd_3_141 : (Jvm.Cond.code ({ cls := "AppendStore$Merger", name := "cameToAll", desc := "(LAppendStore$Shelf;)Z" } : Jvm.MethodName) prog_5_method_6_code (3 : Nat) (Option.some Jvm.ClassFile.FieldType.boolean)) ∈ aw_ws := aw_t3 (List.mem_of_getElem? (i := 141) (by decide +kernel)) rfl
theorem wd_3_142 : (Jvm.Cond.methodLink "AppendStore$Merger" (35 : Nat) ({ cls := "AppendStore$Shelf", name := "at", desc := "(I)LAppendStore$StoreFile;" } : Jvm.MethodName)) ∈ aw_ws := aw_t3 (List.mem_of_getElem? (i := 142) (by decide +kernel)) rfl
theorem wd_3_143 : (Jvm.Cond.methodLink "AppendStore$Merger" (64 : Nat) ({ cls := "AppendStore$StoreFile", name := "recordCount", desc := "()I" } : Jvm.MethodName)) ∈ aw_ws := aw_t3 (List.mem_of_getElem? (i := 143) (by decide +kernel)) rfl
theorem wd_3_144 : (Jvm.Cond.methodLink "AppendStore$Merger" (41 : Nat) ({ cls := "AppendStore$StoreFile", name := "record", desc := "(I)LAppendStore$Rec;" } : Jvm.MethodName)) ∈ aw_ws := aw_t3 (List.mem_of_getElem? (i := 144) (by decide +kernel)) rfl
theorem wd_3_145 : (Jvm.Cond.methodLink "AppendStore$Merger" (45 : Nat) ({ cls := "AppendStore$Directory", name := "has", desc := "(LAppendStore$Rec;)Z" } : Jvm.MethodName)) ∈ aw_ws := aw_t3 (List.mem_of_getElem? (i := 145) (by decide +kernel)) rfl
theorem wd_3_146 : (Jvm.Cond.instanceMethod ({ cls := "AppendStore$Directory", name := "has", desc := "(LAppendStore$Rec;)Z" } : Jvm.MethodName)) ∈ aw_ws := aw_t3 (List.mem_of_getElem? (i := 146) (by decide +kernel)) rfl
theorem wd_3_147 : (Jvm.Cond.selects "AppendStore$Directory" ({ cls := "AppendStore$Directory", name := "has", desc := "(LAppendStore$Rec;)Z" } : Jvm.MethodName) ({ cls := "AppendStore$Directory", name := "has", desc := "(LAppendStore$Rec;)Z" } : Jvm.MethodName)) ∈ aw_ws := aw_t3 (List.mem_of_getElem? (i := 147) (by decide +kernel)) rfl
theorem wd_3_148 : (Jvm.Cond.code ({ cls := "AppendStore$Directory", name := "has", desc := "(LAppendStore$Rec;)Z" } : Jvm.MethodName) prog_2_method_6_code (2 : Nat) (Option.some Jvm.ClassFile.FieldType.boolean)) ∈ aw_ws := aw_t3 (List.mem_of_getElem? (i := 148) (by decide +kernel)) rfl
theorem wd_3_149 : (Jvm.Cond.methodLink "AppendStore$Directory" (35 : Nat) ({ cls := "AppendStore$Directory", name := "find", desc := "(J)LAppendStore$Rec;" } : Jvm.MethodName)) ∈ aw_ws := aw_t3 (List.mem_of_getElem? (i := 149) (by decide +kernel)) rfl
theorem wd_3_150 : (Jvm.Cond.methodLink "AppendStore$Merger" (51 : Nat) ({ cls := "AppendStore$Rec", name := "size", desc := "()I" } : Jvm.MethodName)) ∈ aw_ws := aw_t3 (List.mem_of_getElem? (i := 150) (by decide +kernel)) rfl
theorem wd_3_151 : (Jvm.Cond.methodLink "AppendStore$Merger" (57 : Nat) ({ cls := "AppendStore$Merger", name := "outputFor", desc := "(I)LAppendStore$StoreFile;" } : Jvm.MethodName)) ∈ aw_ws := aw_t3 (List.mem_of_getElem? (i := 151) (by decide +kernel)) rfl
theorem wd_3_153 : (Jvm.Cond.instanceMethod ({ cls := "AppendStore$Merger", name := "outputFor", desc := "(I)LAppendStore$StoreFile;" } : Jvm.MethodName)) ∈ aw_ws := aw_t3 (List.mem_of_getElem? (i := 153) (by decide +kernel)) rfl
theorem wd_3_154 : (Jvm.Cond.code ({ cls := "AppendStore$Merger", name := "outputFor", desc := "(I)LAppendStore$StoreFile;" } : Jvm.MethodName) prog_5_method_9_code (3 : Nat) (Option.some (Jvm.ClassFile.FieldType.object "AppendStore$StoreFile"))) ∈ aw_ws := aw_t3 (List.mem_of_getElem? (i := 154) (by decide +kernel)) rfl
theorem wd_3_155 : (Jvm.Cond.methodLink "AppendStore$Merger" (96 : Nat) ({ cls := "AppendStore$StoreFile", name := "bytes", desc := "()LAppendStore$Octets;" } : Jvm.MethodName)) ∈ aw_ws := aw_t3 (List.mem_of_getElem? (i := 155) (by decide +kernel)) rfl
theorem wd_3_156 : (Jvm.Cond.methodLink "AppendStore$Merger" (100 : Nat) ({ cls := "AppendStore$Octets", name := "hasRoomFor", desc := "(I)Z" } : Jvm.MethodName)) ∈ aw_ws := aw_t3 (List.mem_of_getElem? (i := 156) (by decide +kernel)) rfl
theorem wd_3_157 : (Jvm.Cond.methodLink "AppendStore$Merger" (106 : Nat) ({ cls := "AppendStore$StoreFile", name := "begin", desc := "(I)V" } : Jvm.MethodName)) ∈ aw_ws := aw_t3 (List.mem_of_getElem? (i := 157) (by decide +kernel)) rfl
theorem wd_3_158 : (Jvm.Cond.methodLink "AppendStore$Merger" (60 : Nat) ({ cls := "AppendStore$StoreFile", name := "appendCopy", desc := "(LAppendStore$Rec;)V" } : Jvm.MethodName)) ∈ aw_ws := aw_t3 (List.mem_of_getElem? (i := 158) (by decide +kernel)) rfl
theorem wd_3_159 : (Jvm.Cond.instanceMethod ({ cls := "AppendStore$StoreFile", name := "appendCopy", desc := "(LAppendStore$Rec;)V" } : Jvm.MethodName)) ∈ aw_ws := aw_t3 (List.mem_of_getElem? (i := 159) (by decide +kernel)) rfl
theorem wd_3_160 : (Jvm.Cond.selects "AppendStore$StoreFile" ({ cls := "AppendStore$StoreFile", name := "appendCopy", desc := "(LAppendStore$Rec;)V" } : Jvm.MethodName) ({ cls := "AppendStore$StoreFile", name := "appendCopy", desc := "(LAppendStore$Rec;)V" } : Jvm.MethodName)) ∈ aw_ws := aw_t3 (List.mem_of_getElem? (i := 160) (by decide +kernel)) rfl
theorem wd_3_161 : (Jvm.Cond.code ({ cls := "AppendStore$StoreFile", name := "appendCopy", desc := "(LAppendStore$Rec;)V" } : Jvm.MethodName) prog_9_method_13_code (3 : Nat) (Option.none : Option Jvm.ClassFile.FieldType)) ∈ aw_ws := aw_t3 (List.mem_of_getElem? (i := 161) (by decide +kernel)) rfl
theorem wd_3_162 : (Jvm.Cond.methodLink "AppendStore$StoreFile" (88 : Nat) ({ cls := "AppendStore$Rec", name := "addBytesTo", desc := "(LAppendStore$Octets;)V" } : Jvm.MethodName)) ∈ aw_ws := aw_t3 (List.mem_of_getElem? (i := 162) (by decide +kernel)) rfl
theorem wd_3_163 : (Jvm.Cond.instanceMethod ({ cls := "AppendStore$Rec", name := "addBytesTo", desc := "(LAppendStore$Octets;)V" } : Jvm.MethodName)) ∈ aw_ws := aw_t3 (List.mem_of_getElem? (i := 163) (by decide +kernel)) rfl
theorem wd_3_164 : (Jvm.Cond.selects "AppendStore$Rec" ({ cls := "AppendStore$Rec", name := "addBytesTo", desc := "(LAppendStore$Octets;)V" } : Jvm.MethodName) ({ cls := "AppendStore$Rec", name := "addBytesTo", desc := "(LAppendStore$Octets;)V" } : Jvm.MethodName)) ∈ aw_ws := aw_t3 (List.mem_of_getElem? (i := 164) (by decide +kernel)) rfl
theorem wd_3_165 : (Jvm.Cond.code ({ cls := "AppendStore$Rec", name := "addBytesTo", desc := "(LAppendStore$Octets;)V" } : Jvm.MethodName) prog_7_method_8_code (2 : Nat) (Option.none : Option Jvm.ClassFile.FieldType)) ∈ aw_ws := aw_t3 (List.mem_of_getElem? (i := 165) (by decide +kernel)) rfl
theorem wd_3_166 : (Jvm.Cond.methodLink "AppendStore$Rec" (64 : Nat) ({ cls := "AppendStore$Octets", name := "addFrom", desc := "(LAppendStore$Octets;II)V" } : Jvm.MethodName)) ∈ aw_ws := aw_t3 (List.mem_of_getElem? (i := 166) (by decide +kernel)) rfl
theorem wd_3_167 : (Jvm.Cond.instanceMethod ({ cls := "AppendStore$Octets", name := "addFrom", desc := "(LAppendStore$Octets;II)V" } : Jvm.MethodName)) ∈ aw_ws := aw_t3 (List.mem_of_getElem? (i := 167) (by decide +kernel)) rfl
theorem wd_3_168 : (Jvm.Cond.selects "AppendStore$Octets" ({ cls := "AppendStore$Octets", name := "addFrom", desc := "(LAppendStore$Octets;II)V" } : Jvm.MethodName) ({ cls := "AppendStore$Octets", name := "addFrom", desc := "(LAppendStore$Octets;II)V" } : Jvm.MethodName)) ∈ aw_ws := aw_t3 (List.mem_of_getElem? (i := 168) (by decide +kernel)) rfl
theorem wd_3_169 : (Jvm.Cond.code ({ cls := "AppendStore$Octets", name := "addFrom", desc := "(LAppendStore$Octets;II)V" } : Jvm.MethodName) prog_6_method_10_code (5 : Nat) (Option.none : Option Jvm.ClassFile.FieldType)) ∈ aw_ws := aw_t3 (List.mem_of_getElem? (i := 169) (by decide +kernel)) rfl
theorem wd_3_175 : (Jvm.Cond.methodLink "AppendStore$Merger" (67 : Nat) ({ cls := "AppendStore$StoreFile", name := "number", desc := "()I" } : Jvm.MethodName)) ∈ aw_ws := aw_t3 (List.mem_of_getElem? (i := 175) (by decide +kernel)) rfl
theorem wd_3_176 : (Jvm.Cond.methodLink "AppendStore$Merger" (70 : Nat) ({ cls := "AppendStore$StoreFile", name := "publishAs", desc := "(I)V" } : Jvm.MethodName)) ∈ aw_ws := aw_t3 (List.mem_of_getElem? (i := 176) (by decide +kernel)) rfl
theorem wd_3_177 : (Jvm.Cond.instanceMethod ({ cls := "AppendStore$StoreFile", name := "publishAs", desc := "(I)V" } : Jvm.MethodName)) ∈ aw_ws := aw_t3 (List.mem_of_getElem? (i := 177) (by decide +kernel)) rfl
theorem wd_3_178 : (Jvm.Cond.selects "AppendStore$StoreFile" ({ cls := "AppendStore$StoreFile", name := "publishAs", desc := "(I)V" } : Jvm.MethodName) ({ cls := "AppendStore$StoreFile", name := "publishAs", desc := "(I)V" } : Jvm.MethodName)) ∈ aw_ws := aw_t3 (List.mem_of_getElem? (i := 178) (by decide +kernel)) rfl
theorem wd_3_179 : (Jvm.Cond.code ({ cls := "AppendStore$StoreFile", name := "publishAs", desc := "(I)V" } : Jvm.MethodName) prog_9_method_15_code (4 : Nat) (Option.none : Option Jvm.ClassFile.FieldType)) ∈ aw_ws := aw_t3 (List.mem_of_getElem? (i := 179) (by decide +kernel)) rfl
theorem wd_3_180 : (Jvm.Cond.methodLink "AppendStore$StoreFile" (104 : Nat) ({ cls := "AppendStore$Octets", name := "addFrom", desc := "(LAppendStore$Octets;II)V" } : Jvm.MethodName)) ∈ aw_ws := aw_t3 (List.mem_of_getElem? (i := 180) (by decide +kernel)) rfl
theorem wd_3_181 : (Jvm.Cond.methodLink "AppendStore$StoreFile" (108 : Nat) ({ cls := "AppendStore$Rec", name := "keySize", desc := "()I" } : Jvm.MethodName)) ∈ aw_ws := aw_t3 (List.mem_of_getElem? (i := 181) (by decide +kernel)) rfl
theorem wd_3_182 : (Jvm.Cond.methodLink "AppendStore$Merger" (74 : Nat) ({ cls := "AppendStore$Merger", name := "pointToCopies", desc := "(LAppendStore$StoreFile;LAppendStore$Directory;)V" } : Jvm.MethodName)) ∈ aw_ws := aw_t3 (List.mem_of_getElem? (i := 182) (by decide +kernel)) rfl
theorem wd_3_183 : (Jvm.Cond.static ({ cls := "AppendStore$Merger", name := "pointToCopies", desc := "(LAppendStore$StoreFile;LAppendStore$Directory;)V" } : Jvm.MethodName)) ∈ aw_ws := aw_t3 (List.mem_of_getElem? (i := 183) (by decide +kernel)) rfl
theorem wd_3_184 : (Jvm.Cond.code ({ cls := "AppendStore$Merger", name := "pointToCopies", desc := "(LAppendStore$StoreFile;LAppendStore$Directory;)V" } : Jvm.MethodName) prog_5_method_8_code (4 : Nat) (Option.none : Option Jvm.ClassFile.FieldType)) ∈ aw_ws := aw_t3 (List.mem_of_getElem? (i := 184) (by decide +kernel)) rfl
theorem wd_3_185 : (Jvm.Cond.methodLink "AppendStore$Merger" (92 : Nat) ({ cls := "AppendStore$Directory", name := "replace", desc := "(LAppendStore$Rec;LAppendStore$Rec;)V" } : Jvm.MethodName)) ∈ aw_ws := aw_t3 (List.mem_of_getElem? (i := 185) (by decide +kernel)) rfl
theorem wd_3_186 : (Jvm.Cond.instanceMethod ({ cls := "AppendStore$Directory", name := "replace", desc := "(LAppendStore$Rec;LAppendStore$Rec;)V" } : Jvm.MethodName)) ∈ aw_ws := aw_t3 (List.mem_of_getElem? (i := 186) (by decide +kernel)) rfl
theorem wd_3_187 : (Jvm.Cond.selects "AppendStore$Directory" ({ cls := "AppendStore$Directory", name := "replace", desc := "(LAppendStore$Rec;LAppendStore$Rec;)V" } : Jvm.MethodName) ({ cls := "AppendStore$Directory", name := "replace", desc := "(LAppendStore$Rec;LAppendStore$Rec;)V" } : Jvm.MethodName)) ∈ aw_ws := aw_t3 (List.mem_of_getElem? (i := 187) (by decide +kernel)) rfl
theorem wd_3_188 : (Jvm.Cond.code ({ cls := "AppendStore$Directory", name := "replace", desc := "(LAppendStore$Rec;LAppendStore$Rec;)V" } : Jvm.MethodName) prog_2_method_8_code (3 : Nat) (Option.none : Option Jvm.ClassFile.FieldType)) ∈ aw_ws := aw_t3 (List.mem_of_getElem? (i := 188) (by decide +kernel)) rfl
theorem wd_3_189 : (Jvm.Cond.methodLink "AppendStore$Directory" (51 : Nat) ({ cls := "AppendStore$Directory", name := "has", desc := "(LAppendStore$Rec;)Z" } : Jvm.MethodName)) ∈ aw_ws := aw_t3 (List.mem_of_getElem? (i := 189) (by decide +kernel)) rfl
theorem wd_3_190 : (Jvm.Cond.methodLink "AppendStore$Directory" (55 : Nat) ({ cls := "AppendStore$Directory", name := "enter", desc := "(LAppendStore$Rec;)V" } : Jvm.MethodName)) ∈ aw_ws := aw_t3 (List.mem_of_getElem? (i := 190) (by decide +kernel)) rfl
theorem wd_3_191 : (Jvm.Cond.methodLink "AppendStore$Merger" (78 : Nat) ({ cls := "AppendStore$Shelf", name := "exchange", desc := "(ILAppendStore$StoreFile;)LAppendStore$StoreFile;" } : Jvm.MethodName)) ∈ aw_ws := aw_t3 (List.mem_of_getElem? (i := 191) (by decide +kernel)) rfl
theorem wd_3_192 : (Jvm.Cond.instanceMethod ({ cls := "AppendStore$Shelf", name := "exchange", desc := "(ILAppendStore$StoreFile;)LAppendStore$StoreFile;" } : Jvm.MethodName)) ∈ aw_ws := aw_t3 (List.mem_of_getElem? (i := 192) (by decide +kernel)) rfl
theorem wd_3_193 : (Jvm.Cond.selects "AppendStore$Shelf" ({ cls := "AppendStore$Shelf", name := "exchange", desc := "(ILAppendStore$StoreFile;)LAppendStore$StoreFile;" } : Jvm.MethodName) ({ cls := "AppendStore$Shelf", name := "exchange", desc := "(ILAppendStore$StoreFile;)LAppendStore$StoreFile;" } : Jvm.MethodName)) ∈ aw_ws := aw_t3 (List.mem_of_getElem? (i := 193) (by decide +kernel)) rfl
theorem wd_3_194 : (Jvm.Cond.code ({ cls := "AppendStore$Shelf", name := "exchange", desc := "(ILAppendStore$StoreFile;)LAppendStore$StoreFile;" } : Jvm.MethodName) prog_8_method_9_code (4 : Nat) (Option.some (Jvm.ClassFile.FieldType.object "AppendStore$StoreFile"))) ∈ aw_ws := aw_t3 (List.mem_of_getElem? (i := 194) (by decide +kernel)) rfl
theorem wd_3_195 : (Jvm.Cond.methodLink "AppendStore$Merger" (82 : Nat) ({ cls := "AppendStore$Shelf", name := "takeOut", desc := "(I)V" } : Jvm.MethodName)) ∈ aw_ws := aw_t3 (List.mem_of_getElem? (i := 195) (by decide +kernel)) rfl
theorem wd_3_196 : (Jvm.Cond.instanceMethod ({ cls := "AppendStore$Shelf", name := "takeOut", desc := "(I)V" } : Jvm.MethodName)) ∈ aw_ws := aw_t3 (List.mem_of_getElem? (i := 196) (by decide +kernel)) rfl
theorem wd_3_197 : (Jvm.Cond.selects "AppendStore$Shelf" ({ cls := "AppendStore$Shelf", name := "takeOut", desc := "(I)V" } : Jvm.MethodName) ({ cls := "AppendStore$Shelf", name := "takeOut", desc := "(I)V" } : Jvm.MethodName)) ∈ aw_ws := aw_t3 (List.mem_of_getElem? (i := 197) (by decide +kernel)) rfl
theorem wd_3_198 : (Jvm.Cond.code ({ cls := "AppendStore$Shelf", name := "takeOut", desc := "(I)V" } : Jvm.MethodName) prog_8_method_10_code (4 : Nat) (Option.none : Option Jvm.ClassFile.FieldType)) ∈ aw_ws := aw_t3 (List.mem_of_getElem? (i := 198) (by decide +kernel)) rfl
theorem wd_3_199 : (Jvm.Cond.methodLink "AppendStore$Merger" (85 : Nat) ({ cls := "AppendStore$Merger", name := "drop", desc := "()V" } : Jvm.MethodName)) ∈ aw_ws := aw_t3 (List.mem_of_getElem? (i := 199) (by decide +kernel)) rfl
theorem wd_3_219 : (Jvm.Cond.methodLink "AppendStore$StoreFile" (50 : Nat) ({ cls := "AppendStore$Directory", name := "has", desc := "(LAppendStore$Rec;)Z" } : Jvm.MethodName)) ∈ aw_ws := aw_t3 (List.mem_of_getElem? (i := 219) (by decide +kernel)) rfl
theorem wd_3_220 : (Jvm.Cond.methodLink "AppendStore$StoreFile" (56 : Nat) ({ cls := "AppendStore$Rec", name := "size", desc := "()I" } : Jvm.MethodName)) ∈ aw_ws := aw_t3 (List.mem_of_getElem? (i := 220) (by decide +kernel)) rfl
theorem wd_4_7 : (Jvm.Cond.classLink "AppendStoreLaw" (61 : Nat) "AppendStoreModel") ∈ aw_ws := aw_t4 (List.mem_of_getElem? (i := 7) (by decide +kernel)) rfl
theorem wd_4_8 : (Jvm.Cond.instantiable "AppendStoreModel" (29 : Nat)) ∈ aw_ws := aw_t4 (List.mem_of_getElem? (i := 8) (by decide +kernel)) rfl
theorem wd_4_9 : (Jvm.Cond.methodLink "AppendStoreLaw" (63 : Nat) ({ cls := "AppendStoreModel", name := "<init>", desc := "()V" } : Jvm.MethodName)) ∈ aw_ws := aw_t4 (List.mem_of_getElem? (i := 9) (by decide +kernel)) rfl
theorem wd_4_10 : (Jvm.Cond.instanceMethod ({ cls := "AppendStoreModel", name := "<init>", desc := "()V" } : Jvm.MethodName)) ∈ aw_ws := aw_t4 (List.mem_of_getElem? (i := 10) (by decide +kernel)) rfl
theorem wd_4_11 : (Jvm.Cond.code ({ cls := "AppendStoreModel", name := "<init>", desc := "()V" } : Jvm.MethodName) prog_11_method_1_code (1 : Nat) (Option.none : Option Jvm.ClassFile.FieldType)) ∈ aw_ws := aw_t4 (List.mem_of_getElem? (i := 11) (by decide +kernel)) rfl
theorem wd_4_12 : (Jvm.Cond.methodLink "AppendStoreModel" (1 : Nat) ({ cls := "java/lang/Object", name := "<init>", desc := "()V" } : Jvm.MethodName)) ∈ aw_ws := aw_t4 (List.mem_of_getElem? (i := 12) (by decide +kernel)) rfl
theorem wd_4_13 : (Jvm.Cond.fieldLink "AppendStoreModel" (63 : Nat) "AppendStoreModel" "thrown" "I") ∈ aw_ws := aw_t4 (List.mem_of_getElem? (i := 13) (by decide +kernel)) rfl
theorem wd_4_14 : (Jvm.Cond.fieldLink "AppendStoreModel" (99 : Nat) "AppendStoreModel" "files" "I") ∈ aw_ws := aw_t4 (List.mem_of_getElem? (i := 14) (by decide +kernel)) rfl
theorem wd_4_15 : (Jvm.Cond.fieldLink "AppendStoreModel" (7 : Nat) "AppendStoreModel" "number" "[I") ∈ aw_ws := aw_t4 (List.mem_of_getElem? (i := 15) (by decide +kernel)) rfl
theorem wd_4_16 : (Jvm.Cond.fieldLink "AppendStoreModel" (13 : Nat) "AppendStoreModel" "size" "[I") ∈ aw_ws := aw_t4 (List.mem_of_getElem? (i := 16) (by decide +kernel)) rfl
theorem wd_4_17 : (Jvm.Cond.fieldLink "AppendStoreModel" (16 : Nat) "AppendStoreModel" "synced" "[I") ∈ aw_ws := aw_t4 (List.mem_of_getElem? (i := 17) (by decide +kernel)) rfl
theorem wd_4_18 : (Jvm.Cond.fieldLink "AppendStoreModel" (19 : Nat) "AppendStoreModel" "bytes" "[I") ∈ aw_ws := aw_t4 (List.mem_of_getElem? (i := 18) (by decide +kernel)) rfl
theorem wd_4_19 : (Jvm.Cond.fieldLink "AppendStoreModel" (22 : Nat) "AppendStoreModel" "hinted" "[Z") ∈ aw_ws := aw_t4 (List.mem_of_getElem? (i := 19) (by decide +kernel)) rfl
theorem wd_4_20 : (Jvm.Cond.fieldLink "AppendStoreModel" (26 : Nat) "AppendStoreModel" "hintSize" "[I") ∈ aw_ws := aw_t4 (List.mem_of_getElem? (i := 20) (by decide +kernel)) rfl
theorem wd_4_21 : (Jvm.Cond.fieldLink "AppendStoreModel" (29 : Nat) "AppendStoreModel" "hints" "[I") ∈ aw_ws := aw_t4 (List.mem_of_getElem? (i := 21) (by decide +kernel)) rfl
theorem wd_4_22 : (Jvm.Cond.fieldLink "AppendStoreModel" (32 : Nat) "AppendStoreModel" "count" "[I") ∈ aw_ws := aw_t4 (List.mem_of_getElem? (i := 22) (by decide +kernel)) rfl
theorem wd_4_23 : (Jvm.Cond.fieldLink "AppendStoreModel" (35 : Nat) "AppendStoreModel" "place" "[I") ∈ aw_ws := aw_t4 (List.mem_of_getElem? (i := 23) (by decide +kernel)) rfl
theorem wd_4_24 : (Jvm.Cond.fieldLink "AppendStoreModel" (38 : Nat) "AppendStoreModel" "keySize" "[I") ∈ aw_ws := aw_t4 (List.mem_of_getElem? (i := 24) (by decide +kernel)) rfl
theorem wd_4_25 : (Jvm.Cond.fieldLink "AppendStoreModel" (41 : Nat) "AppendStoreModel" "valueSize" "[I") ∈ aw_ws := aw_t4 (List.mem_of_getElem? (i := 25) (by decide +kernel)) rfl
theorem wd_4_26 : (Jvm.Cond.fieldLink "AppendStoreModel" (44 : Nat) "AppendStoreModel" "fromFile" "[I") ∈ aw_ws := aw_t4 (List.mem_of_getElem? (i := 26) (by decide +kernel)) rfl
theorem wd_4_27 : (Jvm.Cond.fieldLink "AppendStoreModel" (47 : Nat) "AppendStoreModel" "fromRecord" "[I") ∈ aw_ws := aw_t4 (List.mem_of_getElem? (i := 27) (by decide +kernel)) rfl
theorem wd_4_28 : (Jvm.Cond.fieldLink "AppendStoreModel" (85 : Nat) "AppendStoreModel" "entries" "I") ∈ aw_ws := aw_t4 (List.mem_of_getElem? (i := 28) (by decide +kernel)) rfl
theorem wd_4_29 : (Jvm.Cond.fieldLink "AppendStoreModel" (50 : Nat) "AppendStoreModel" "key" "[J") ∈ aw_ws := aw_t4 (List.mem_of_getElem? (i := 29) (by decide +kernel)) rfl
theorem wd_4_30 : (Jvm.Cond.fieldLink "AppendStoreModel" (54 : Nat) "AppendStoreModel" "sizeOf" "[I") ∈ aw_ws := aw_t4 (List.mem_of_getElem? (i := 30) (by decide +kernel)) rfl
theorem wd_4_31 : (Jvm.Cond.fieldLink "AppendStoreModel" (57 : Nat) "AppendStoreModel" "fileOf" "[I") ∈ aw_ws := aw_t4 (List.mem_of_getElem? (i := 31) (by decide +kernel)) rfl
theorem wd_4_32 : (Jvm.Cond.fieldLink "AppendStoreModel" (60 : Nat) "AppendStoreModel" "recordOf" "[I") ∈ aw_ws := aw_t4 (List.mem_of_getElem? (i := 32) (by decide +kernel)) rfl
theorem wd_4_33 : (Jvm.Cond.fieldLink "AppendStoreModel" (102 : Nat) "AppendStoreModel" "hasActive" "Z") ∈ aw_ws := aw_t4 (List.mem_of_getElem? (i := 33) (by decide +kernel)) rfl
theorem wd_4_34 : (Jvm.Cond.fieldLink "AppendStoreModel" (137 : Nat) "AppendStoreModel" "closed" "Z") ∈ aw_ws := aw_t4 (List.mem_of_getElem? (i := 34) (by decide +kernel)) rfl
theorem wd_4_35 : (Jvm.Cond.fieldLink "AppendStoreModel" (114 : Nat) "AppendStoreModel" "last" "I") ∈ aw_ws := aw_t4 (List.mem_of_getElem? (i := 35) (by decide +kernel)) rfl
theorem wd_4_36 : (Jvm.Cond.fieldLink "AppendStoreModel" (125 : Nat) "AppendStoreModel" "time" "I") ∈ aw_ws := aw_t4 (List.mem_of_getElem? (i := 36) (by decide +kernel)) rfl
theorem wd_4_37 : (Jvm.Cond.fieldLink "AppendStoreModel" (175 : Nat) "AppendStoreModel" "merging" "Z") ∈ aw_ws := aw_t4 (List.mem_of_getElem? (i := 37) (by decide +kernel)) rfl
theorem wd_4_38 : (Jvm.Cond.fieldLink "AppendStoreModel" (193 : Nat) "AppendStoreModel" "taken" "I") ∈ aw_ws := aw_t4 (List.mem_of_getElem? (i := 38) (by decide +kernel)) rfl
theorem wd_4_39 : (Jvm.Cond.fieldLink "AppendStoreModel" (190 : Nat) "AppendStoreModel" "atFile" "I") ∈ aw_ws := aw_t4 (List.mem_of_getElem? (i := 39) (by decide +kernel)) rfl
theorem wd_4_40 : (Jvm.Cond.fieldLink "AppendStoreModel" (196 : Nat) "AppendStoreModel" "atRecord" "I") ∈ aw_ws := aw_t4 (List.mem_of_getElem? (i := 40) (by decide +kernel)) rfl
theorem wd_4_41 : (Jvm.Cond.fieldLink "AppendStoreModel" (202 : Nat) "AppendStoreModel" "made" "I") ∈ aw_ws := aw_t4 (List.mem_of_getElem? (i := 41) (by decide +kernel)) rfl
theorem wd_4_42 : (Jvm.Cond.lays "AppendStoreModel" "AppendStoreModel" "thrown" "I") ∈ aw_ws := aw_t4 (List.mem_of_getElem? (i := 42) (by decide +kernel)) rfl
theorem wd_4_44 : (Jvm.Cond.lays "AppendStoreModel" "AppendStoreModel" "files" "I") ∈ aw_ws := aw_t4 (List.mem_of_getElem? (i := 44) (by decide +kernel)) rfl
theorem wd_4_46 : (Jvm.Cond.laysFinal "AppendStoreModel" "AppendStoreModel" "number" "[I") ∈ aw_ws := aw_t4 (List.mem_of_getElem? (i := 46) (by decide +kernel)) rfl
theorem wd_4_48 : (Jvm.Cond.laysFinal "AppendStoreModel" "AppendStoreModel" "size" "[I") ∈ aw_ws := aw_t4 (List.mem_of_getElem? (i := 48) (by decide +kernel)) rfl
theorem wd_4_50 : (Jvm.Cond.laysFinal "AppendStoreModel" "AppendStoreModel" "synced" "[I") ∈ aw_ws := aw_t4 (List.mem_of_getElem? (i := 50) (by decide +kernel)) rfl
theorem wd_4_52 : (Jvm.Cond.laysFinal "AppendStoreModel" "AppendStoreModel" "bytes" "[I") ∈ aw_ws := aw_t4 (List.mem_of_getElem? (i := 52) (by decide +kernel)) rfl
theorem wd_4_54 : (Jvm.Cond.laysFinal "AppendStoreModel" "AppendStoreModel" "hinted" "[Z") ∈ aw_ws := aw_t4 (List.mem_of_getElem? (i := 54) (by decide +kernel)) rfl
theorem wd_4_56 : (Jvm.Cond.laysFinal "AppendStoreModel" "AppendStoreModel" "hintSize" "[I") ∈ aw_ws := aw_t4 (List.mem_of_getElem? (i := 56) (by decide +kernel)) rfl
theorem wd_4_58 : (Jvm.Cond.laysFinal "AppendStoreModel" "AppendStoreModel" "hints" "[I") ∈ aw_ws := aw_t4 (List.mem_of_getElem? (i := 58) (by decide +kernel)) rfl
theorem wd_4_60 : (Jvm.Cond.laysFinal "AppendStoreModel" "AppendStoreModel" "count" "[I") ∈ aw_ws := aw_t4 (List.mem_of_getElem? (i := 60) (by decide +kernel)) rfl
theorem wd_4_62 : (Jvm.Cond.laysFinal "AppendStoreModel" "AppendStoreModel" "place" "[I") ∈ aw_ws := aw_t4 (List.mem_of_getElem? (i := 62) (by decide +kernel)) rfl
theorem wd_4_64 : (Jvm.Cond.laysFinal "AppendStoreModel" "AppendStoreModel" "keySize" "[I") ∈ aw_ws := aw_t4 (List.mem_of_getElem? (i := 64) (by decide +kernel)) rfl
theorem wd_4_66 : (Jvm.Cond.laysFinal "AppendStoreModel" "AppendStoreModel" "valueSize" "[I") ∈ aw_ws := aw_t4 (List.mem_of_getElem? (i := 66) (by decide +kernel)) rfl
theorem wd_4_68 : (Jvm.Cond.laysFinal "AppendStoreModel" "AppendStoreModel" "fromFile" "[I") ∈ aw_ws := aw_t4 (List.mem_of_getElem? (i := 68) (by decide +kernel)) rfl
theorem wd_4_70 : (Jvm.Cond.laysFinal "AppendStoreModel" "AppendStoreModel" "fromRecord" "[I") ∈ aw_ws := aw_t4 (List.mem_of_getElem? (i := 70) (by decide +kernel)) rfl
theorem wd_4_72 : (Jvm.Cond.lays "AppendStoreModel" "AppendStoreModel" "entries" "I") ∈ aw_ws := aw_t4 (List.mem_of_getElem? (i := 72) (by decide +kernel)) rfl
theorem wd_4_74 : (Jvm.Cond.laysFinal "AppendStoreModel" "AppendStoreModel" "key" "[J") ∈ aw_ws := aw_t4 (List.mem_of_getElem? (i := 74) (by decide +kernel)) rfl
theorem wd_4_76 : (Jvm.Cond.laysFinal "AppendStoreModel" "AppendStoreModel" "sizeOf" "[I") ∈ aw_ws := aw_t4 (List.mem_of_getElem? (i := 76) (by decide +kernel)) rfl
theorem wd_4_78 : (Jvm.Cond.laysFinal "AppendStoreModel" "AppendStoreModel" "fileOf" "[I") ∈ aw_ws := aw_t4 (List.mem_of_getElem? (i := 78) (by decide +kernel)) rfl
theorem wd_4_80 : (Jvm.Cond.laysFinal "AppendStoreModel" "AppendStoreModel" "recordOf" "[I") ∈ aw_ws := aw_t4 (List.mem_of_getElem? (i := 80) (by decide +kernel)) rfl
theorem wd_4_82 : (Jvm.Cond.lays "AppendStoreModel" "AppendStoreModel" "hasActive" "Z") ∈ aw_ws := aw_t4 (List.mem_of_getElem? (i := 82) (by decide +kernel)) rfl
theorem wd_4_84 : (Jvm.Cond.lays "AppendStoreModel" "AppendStoreModel" "closed" "Z") ∈ aw_ws := aw_t4 (List.mem_of_getElem? (i := 84) (by decide +kernel)) rfl
theorem wd_4_86 : (Jvm.Cond.lays "AppendStoreModel" "AppendStoreModel" "last" "I") ∈ aw_ws := aw_t4 (List.mem_of_getElem? (i := 86) (by decide +kernel)) rfl
theorem wd_4_88 : (Jvm.Cond.lays "AppendStoreModel" "AppendStoreModel" "time" "I") ∈ aw_ws := aw_t4 (List.mem_of_getElem? (i := 88) (by decide +kernel)) rfl
theorem wd_4_90 : (Jvm.Cond.lays "AppendStoreModel" "AppendStoreModel" "merging" "Z") ∈ aw_ws := aw_t4 (List.mem_of_getElem? (i := 90) (by decide +kernel)) rfl
theorem wd_4_92 : (Jvm.Cond.lays "AppendStoreModel" "AppendStoreModel" "taken" "I") ∈ aw_ws := aw_t4 (List.mem_of_getElem? (i := 92) (by decide +kernel)) rfl
theorem wd_4_94 : (Jvm.Cond.lays "AppendStoreModel" "AppendStoreModel" "atFile" "I") ∈ aw_ws := aw_t4 (List.mem_of_getElem? (i := 94) (by decide +kernel)) rfl
theorem wd_4_96 : (Jvm.Cond.lays "AppendStoreModel" "AppendStoreModel" "atRecord" "I") ∈ aw_ws := aw_t4 (List.mem_of_getElem? (i := 96) (by decide +kernel)) rfl
theorem wd_4_98 : (Jvm.Cond.lays "AppendStoreModel" "AppendStoreModel" "made" "I") ∈ aw_ws := aw_t4 (List.mem_of_getElem? (i := 98) (by decide +kernel)) rfl
theorem wd_4_101 : (Jvm.Cond.arrayClass Jvm.ClassFile.FieldType.int) ∈ aw_ws := aw_t4 (List.mem_of_getElem? (i := 101) (by decide +kernel)) rfl
theorem wd_4_102 : (Jvm.Cond.arrayClass Jvm.ClassFile.FieldType.boolean) ∈ aw_ws := aw_t4 (List.mem_of_getElem? (i := 102) (by decide +kernel)) rfl
theorem wd_4_103 : (Jvm.Cond.arrayClass Jvm.ClassFile.FieldType.long) ∈ aw_ws := aw_t4 (List.mem_of_getElem? (i := 103) (by decide +kernel)) rfl
theorem wd_4_112 : (Jvm.Cond.methodLink "AppendStoreModel" (133 : Nat) ({ cls := "AppendStoreModel", name := "in", desc := "(III)Z" } : Jvm.MethodName)) ∈ aw_ws := aw_t4 (List.mem_of_getElem? (i := 112) (by decide +kernel)) rfl
theorem wd_4_113 : (Jvm.Cond.static ({ cls := "AppendStoreModel", name := "in", desc := "(III)Z" } : Jvm.MethodName)) ∈ aw_ws := aw_t4 (List.mem_of_getElem? (i := 113) (by decide +kernel)) rfl
theorem wd_4_114 : (Jvm.Cond.code ({ cls := "AppendStoreModel", name := "in", desc := "(III)Z" } : Jvm.MethodName) prog_11_method_3_code (3 : Nat) (Option.some Jvm.ClassFile.FieldType.boolean)) ∈ aw_ws := aw_t4 (List.mem_of_getElem? (i := 114) (by decide +kernel)) rfl
theorem wd_4_115 : (Jvm.Cond.methodLink "AppendStoreModel" (81 : Nat) ({ cls := "AppendStoreModel", name := "lengthOf", desc := "(II)I" } : Jvm.MethodName)) ∈ aw_ws := aw_t4 (List.mem_of_getElem? (i := 115) (by decide +kernel)) rfl
theorem wd_4_116 : (Jvm.Cond.static ({ cls := "AppendStoreModel", name := "lengthOf", desc := "(II)I" } : Jvm.MethodName)) ∈ aw_ws := aw_t4 (List.mem_of_getElem? (i := 116) (by decide +kernel)) rfl
theorem wd_4_117 : (Jvm.Cond.code ({ cls := "AppendStoreModel", name := "lengthOf", desc := "(II)I" } : Jvm.MethodName) prog_11_method_9_code (2 : Nat) (Option.some Jvm.ClassFile.FieldType.int)) ∈ aw_ws := aw_t4 (List.mem_of_getElem? (i := 117) (by decide +kernel)) rfl
theorem wd_4_118 : (Jvm.Cond.methodLink "AppendStoreModel" (140 : Nat) ({ cls := "AppendStoreModel", name := "full", desc := "(I)Z" } : Jvm.MethodName)) ∈ aw_ws := aw_t4 (List.mem_of_getElem? (i := 118) (by decide +kernel)) rfl
theorem wd_4_120 : (Jvm.Cond.instanceMethod ({ cls := "AppendStoreModel", name := "full", desc := "(I)Z" } : Jvm.MethodName)) ∈ aw_ws := aw_t4 (List.mem_of_getElem? (i := 120) (by decide +kernel)) rfl
theorem wd_4_121 : (Jvm.Cond.code ({ cls := "AppendStoreModel", name := "full", desc := "(I)Z" } : Jvm.MethodName) prog_11_method_22_code (2 : Nat) (Option.some Jvm.ClassFile.FieldType.boolean)) ∈ aw_ws := aw_t4 (List.mem_of_getElem? (i := 121) (by decide +kernel)) rfl
theorem wd_4_122 : (Jvm.Cond.methodLink "AppendStoreModel" (144 : Nat) ({ cls := "AppendStoreModel", name := "append", desc := "(JIJI)V" } : Jvm.MethodName)) ∈ aw_ws := aw_t4 (List.mem_of_getElem? (i := 122) (by decide +kernel)) rfl
theorem wd_4_124 : (Jvm.Cond.instanceMethod ({ cls := "AppendStoreModel", name := "append", desc := "(JIJI)V" } : Jvm.MethodName)) ∈ aw_ws := aw_t4 (List.mem_of_getElem? (i := 124) (by decide +kernel)) rfl
theorem wd_4_125 : (Jvm.Cond.code ({ cls := "AppendStoreModel", name := "append", desc := "(JIJI)V" } : Jvm.MethodName) prog_11_method_25_code (13 : Nat) (Option.none : Option Jvm.ClassFile.FieldType)) ∈ aw_ws := aw_t4 (List.mem_of_getElem? (i := 125) (by decide +kernel)) rfl
theorem wd_4_126 : (Jvm.Cond.methodLink "AppendStoreModel" (110 : Nat) ({ cls := "AppendStoreModel", name := "clearRow", desc := "(I)V" } : Jvm.MethodName)) ∈ aw_ws := aw_t4 (List.mem_of_getElem? (i := 126) (by decide +kernel)) rfl
theorem wd_4_128 : (Jvm.Cond.instanceMethod ({ cls := "AppendStoreModel", name := "clearRow", desc := "(I)V" } : Jvm.MethodName)) ∈ aw_ws := aw_t4 (List.mem_of_getElem? (i := 128) (by decide +kernel)) rfl
theorem wd_4_129 : (Jvm.Cond.code ({ cls := "AppendStoreModel", name := "clearRow", desc := "(I)V" } : Jvm.MethodName) prog_11_method_12_code (2 : Nat) (Option.none : Option Jvm.ClassFile.FieldType)) ∈ aw_ws := aw_t4 (List.mem_of_getElem? (i := 129) (by decide +kernel)) rfl
theorem wd_4_130 : (Jvm.Cond.methodLink "AppendStoreModel" (117 : Nat) ({ cls := "AppendStoreModel", name := "note", desc := "(IIII)V" } : Jvm.MethodName)) ∈ aw_ws := aw_t4 (List.mem_of_getElem? (i := 130) (by decide +kernel)) rfl
theorem wd_4_132 : (Jvm.Cond.instanceMethod ({ cls := "AppendStoreModel", name := "note", desc := "(IIII)V" } : Jvm.MethodName)) ∈ aw_ws := aw_t4 (List.mem_of_getElem? (i := 132) (by decide +kernel)) rfl
theorem wd_4_133 : (Jvm.Cond.code ({ cls := "AppendStoreModel", name := "note", desc := "(IIII)V" } : Jvm.MethodName) prog_11_method_11_code (6 : Nat) (Option.none : Option Jvm.ClassFile.FieldType)) ∈ aw_ws := aw_t4 (List.mem_of_getElem? (i := 133) (by decide +kernel)) rfl
theorem wd_4_134 : (Jvm.Cond.methodLink "AppendStoreModel" (121 : Nat) ({ cls := "AppendStoreModel", name := "putNumber", desc := "(IJI)V" } : Jvm.MethodName)) ∈ aw_ws := aw_t4 (List.mem_of_getElem? (i := 134) (by decide +kernel)) rfl
theorem wd_4_136 : (Jvm.Cond.instanceMethod ({ cls := "AppendStoreModel", name := "putNumber", desc := "(IJI)V" } : Jvm.MethodName)) ∈ aw_ws := aw_t4 (List.mem_of_getElem? (i := 136) (by decide +kernel)) rfl
theorem wd_4_137 : (Jvm.Cond.code ({ cls := "AppendStoreModel", name := "putNumber", desc := "(IJI)V" } : Jvm.MethodName) prog_11_method_24_code (6 : Nat) (Option.none : Option Jvm.ClassFile.FieldType)) ∈ aw_ws := aw_t4 (List.mem_of_getElem? (i := 137) (by decide +kernel)) rfl
theorem wd_4_138 : (Jvm.Cond.constantLong "AppendStoreModel" (79 : Nat) (255 : Int64)) ∈ aw_ws := aw_t4 (List.mem_of_getElem? (i := 138) (by decide +kernel)) rfl
theorem wd_4_139 : (Jvm.Cond.methodLink "AppendStoreModel" (106 : Nat) ({ cls := "AppendStoreModel", name := "putByte", desc := "(II)V" } : Jvm.MethodName)) ∈ aw_ws := aw_t4 (List.mem_of_getElem? (i := 139) (by decide +kernel)) rfl
theorem wd_4_141 : (Jvm.Cond.instanceMethod ({ cls := "AppendStoreModel", name := "putByte", desc := "(II)V" } : Jvm.MethodName)) ∈ aw_ws := aw_t4 (List.mem_of_getElem? (i := 141) (by decide +kernel)) rfl
theorem wd_4_142 : (Jvm.Cond.code ({ cls := "AppendStoreModel", name := "putByte", desc := "(II)V" } : Jvm.MethodName) prog_11_method_23_code (3 : Nat) (Option.none : Option Jvm.ClassFile.FieldType)) ∈ aw_ws := aw_t4 (List.mem_of_getElem? (i := 142) (by decide +kernel)) rfl
theorem wd_4_143 : (Jvm.Cond.methodLink "AppendStoreModel" (128 : Nat) ({ cls := "AppendStoreModel", name := "sumOf", desc := "([III)J" } : Jvm.MethodName)) ∈ aw_ws := aw_t4 (List.mem_of_getElem? (i := 143) (by decide +kernel)) rfl
theorem wd_4_144 : (Jvm.Cond.static ({ cls := "AppendStoreModel", name := "sumOf", desc := "([III)J" } : Jvm.MethodName)) ∈ aw_ws := aw_t4 (List.mem_of_getElem? (i := 144) (by decide +kernel)) rfl
theorem wd_4_145 : (Jvm.Cond.code ({ cls := "AppendStoreModel", name := "sumOf", desc := "([III)J" } : Jvm.MethodName) prog_11_method_6_code (6 : Nat) (Option.some Jvm.ClassFile.FieldType.long)) ∈ aw_ws := aw_t4 (List.mem_of_getElem? (i := 145) (by decide +kernel)) rfl
theorem wd_4_146 : (Jvm.Cond.constantLong "AppendStoreModel" (71 : Nat) (4294967295 : Int64)) ∈ aw_ws := aw_t4 (List.mem_of_getElem? (i := 146) (by decide +kernel)) rfl
theorem wd_4_147 : (Jvm.Cond.methodLink "AppendStoreModel" (73 : Nat) ({ cls := "AppendStoreModel", name := "summed", desc := "(JI)J" } : Jvm.MethodName)) ∈ aw_ws := aw_t4 (List.mem_of_getElem? (i := 147) (by decide +kernel)) rfl
theorem wd_4_148 : (Jvm.Cond.static ({ cls := "AppendStoreModel", name := "summed", desc := "(JI)J" } : Jvm.MethodName)) ∈ aw_ws := aw_t4 (List.mem_of_getElem? (i := 148) (by decide +kernel)) rfl
theorem wd_4_149 : (Jvm.Cond.code ({ cls := "AppendStoreModel", name := "summed", desc := "(JI)J" } : Jvm.MethodName) prog_11_method_5_code (6 : Nat) (Option.some Jvm.ClassFile.FieldType.long)) ∈ aw_ws := aw_t4 (List.mem_of_getElem? (i := 149) (by decide +kernel)) rfl
theorem wd_4_150 : (Jvm.Cond.constantLong "AppendStoreModel" (67 : Nat) (2 : Int64)) ∈ aw_ws := aw_t4 (List.mem_of_getElem? (i := 150) (by decide +kernel)) rfl
theorem wd_4_151 : (Jvm.Cond.constantLong "AppendStoreModel" (69 : Nat) (3988292384 : Int64)) ∈ aw_ws := aw_t4 (List.mem_of_getElem? (i := 151) (by decide +kernel)) rfl
theorem wd_4_152 : (Jvm.Cond.constant "AppendStoreModel" (132 : Nat) (65536 : Int32)) ∈ aw_ws := aw_t4 (List.mem_of_getElem? (i := 152) (by decide +kernel)) rfl
theorem wd_4_153 : (Jvm.Cond.methodLink "AppendStoreModel" (148 : Nat) ({ cls := "AppendStoreModel", name := "cut", desc := "(JI)J" } : Jvm.MethodName)) ∈ aw_ws := aw_t4 (List.mem_of_getElem? (i := 153) (by decide +kernel)) rfl
theorem wd_4_154 : (Jvm.Cond.static ({ cls := "AppendStoreModel", name := "cut", desc := "(JI)J" } : Jvm.MethodName)) ∈ aw_ws := aw_t4 (List.mem_of_getElem? (i := 154) (by decide +kernel)) rfl
theorem wd_4_155 : (Jvm.Cond.code ({ cls := "AppendStoreModel", name := "cut", desc := "(JI)J" } : Jvm.MethodName) prog_11_method_8_code (6 : Nat) (Option.some Jvm.ClassFile.FieldType.long)) ∈ aw_ws := aw_t4 (List.mem_of_getElem? (i := 155) (by decide +kernel)) rfl
theorem wd_4_156 : (Jvm.Cond.methodLink "AppendStoreModel" (151 : Nat) ({ cls := "AppendStoreModel", name := "set", desc := "(JIII)V" } : Jvm.MethodName)) ∈ aw_ws := aw_t4 (List.mem_of_getElem? (i := 156) (by decide +kernel)) rfl
theorem wd_4_158 : (Jvm.Cond.instanceMethod ({ cls := "AppendStoreModel", name := "set", desc := "(JIII)V" } : Jvm.MethodName)) ∈ aw_ws := aw_t4 (List.mem_of_getElem? (i := 158) (by decide +kernel)) rfl
theorem wd_4_159 : (Jvm.Cond.code ({ cls := "AppendStoreModel", name := "set", desc := "(JIII)V" } : Jvm.MethodName) prog_11_method_15_code (7 : Nat) (Option.none : Option Jvm.ClassFile.FieldType)) ∈ aw_ws := aw_t4 (List.mem_of_getElem? (i := 159) (by decide +kernel)) rfl
theorem wd_4_160 : (Jvm.Cond.methodLink "AppendStoreModel" (88 : Nat) ({ cls := "AppendStoreModel", name := "find", desc := "(JI)I" } : Jvm.MethodName)) ∈ aw_ws := aw_t4 (List.mem_of_getElem? (i := 160) (by decide +kernel)) rfl
theorem wd_4_162 : (Jvm.Cond.instanceMethod ({ cls := "AppendStoreModel", name := "find", desc := "(JI)I" } : Jvm.MethodName)) ∈ aw_ws := aw_t4 (List.mem_of_getElem? (i := 162) (by decide +kernel)) rfl
theorem wd_4_163 : (Jvm.Cond.code ({ cls := "AppendStoreModel", name := "find", desc := "(JI)I" } : Jvm.MethodName) prog_11_method_14_code (5 : Nat) (Option.some Jvm.ClassFile.FieldType.int)) ∈ aw_ws := aw_t4 (List.mem_of_getElem? (i := 163) (by decide +kernel)) rfl
theorem wd_4_168 : (Jvm.Cond.methodLink "AppendStoreModel" (155 : Nat) ({ cls := "AppendStoreModel", name := "unset", desc := "(JI)V" } : Jvm.MethodName)) ∈ aw_ws := aw_t4 (List.mem_of_getElem? (i := 168) (by decide +kernel)) rfl
theorem wd_4_170 : (Jvm.Cond.instanceMethod ({ cls := "AppendStoreModel", name := "unset", desc := "(JI)V" } : Jvm.MethodName)) ∈ aw_ws := aw_t4 (List.mem_of_getElem? (i := 170) (by decide +kernel)) rfl
theorem wd_4_171 : (Jvm.Cond.code ({ cls := "AppendStoreModel", name := "unset", desc := "(JI)V" } : Jvm.MethodName) prog_11_method_16_code (5 : Nat) (Option.none : Option Jvm.ClassFile.FieldType)) ∈ aw_ws := aw_t4 (List.mem_of_getElem? (i := 171) (by decide +kernel)) rfl
theorem wd_4_176 : (Jvm.Cond.methodLink "AppendStoreModel" (159 : Nat) ({ cls := "AppendStoreModel", name := "fail", desc := "(I)I" } : Jvm.MethodName)) ∈ aw_ws := aw_t4 (List.mem_of_getElem? (i := 176) (by decide +kernel)) rfl
theorem wd_4_178 : (Jvm.Cond.instanceMethod ({ cls := "AppendStoreModel", name := "fail", desc := "(I)I" } : Jvm.MethodName)) ∈ aw_ws := aw_t4 (List.mem_of_getElem? (i := 178) (by decide +kernel)) rfl
theorem wd_4_179 : (Jvm.Cond.code ({ cls := "AppendStoreModel", name := "fail", desc := "(I)I" } : Jvm.MethodName) prog_11_method_4_code (2 : Nat) (Option.some Jvm.ClassFile.FieldType.int)) ∈ aw_ws := aw_t4 (List.mem_of_getElem? (i := 179) (by decide +kernel)) rfl
theorem wd_4_180 : (Jvm.Cond.methodLink "AppendStoreModel" (163 : Nat) ({ cls := "AppendStoreModel", name := "rowOf", desc := "(I)I" } : Jvm.MethodName)) ∈ aw_ws := aw_t4 (List.mem_of_getElem? (i := 180) (by decide +kernel)) rfl
theorem wd_4_182 : (Jvm.Cond.instanceMethod ({ cls := "AppendStoreModel", name := "rowOf", desc := "(I)I" } : Jvm.MethodName)) ∈ aw_ws := aw_t4 (List.mem_of_getElem? (i := 182) (by decide +kernel)) rfl
theorem wd_4_183 : (Jvm.Cond.code ({ cls := "AppendStoreModel", name := "rowOf", desc := "(I)I" } : Jvm.MethodName) prog_11_method_18_code (3 : Nat) (Option.some Jvm.ClassFile.FieldType.int)) ∈ aw_ws := aw_t4 (List.mem_of_getElem? (i := 183) (by decide +kernel)) rfl
theorem wd_4_184 : (Jvm.Cond.methodLink "AppendStoreModel" (166 : Nat) ({ cls := "AppendStoreModel", name := "length", desc := "(II)I" } : Jvm.MethodName)) ∈ aw_ws := aw_t4 (List.mem_of_getElem? (i := 184) (by decide +kernel)) rfl
theorem wd_4_186 : (Jvm.Cond.instanceMethod ({ cls := "AppendStoreModel", name := "length", desc := "(II)I" } : Jvm.MethodName)) ∈ aw_ws := aw_t4 (List.mem_of_getElem? (i := 186) (by decide +kernel)) rfl
theorem wd_4_187 : (Jvm.Cond.code ({ cls := "AppendStoreModel", name := "length", desc := "(II)I" } : Jvm.MethodName) prog_11_method_10_code (3 : Nat) (Option.some Jvm.ClassFile.FieldType.int)) ∈ aw_ws := aw_t4 (List.mem_of_getElem? (i := 187) (by decide +kernel)) rfl
theorem wd_4_188 : (Jvm.Cond.methodLink "AppendStoreModel" (169 : Nat) ({ cls := "AppendStoreModel", name := "numberIn", desc := "([III)J" } : Jvm.MethodName)) ∈ aw_ws := aw_t4 (List.mem_of_getElem? (i := 188) (by decide +kernel)) rfl
theorem wd_4_189 : (Jvm.Cond.static ({ cls := "AppendStoreModel", name := "numberIn", desc := "([III)J" } : Jvm.MethodName)) ∈ aw_ws := aw_t4 (List.mem_of_getElem? (i := 189) (by decide +kernel)) rfl
theorem wd_4_190 : (Jvm.Cond.code ({ cls := "AppendStoreModel", name := "numberIn", desc := "([III)J" } : Jvm.MethodName) prog_11_method_7_code (6 : Nat) (Option.some Jvm.ClassFile.FieldType.long)) ∈ aw_ws := aw_t4 (List.mem_of_getElem? (i := 190) (by decide +kernel)) rfl
theorem wd_4_191 : (Jvm.Cond.constantLong "AppendStoreModel" (77 : Nat) (256 : Int64)) ∈ aw_ws := aw_t4 (List.mem_of_getElem? (i := 191) (by decide +kernel)) rfl
theorem wd_4_200 : (Jvm.Cond.methodLink "AppendStoreModel" (172 : Nat) ({ cls := "AppendStoreModel", name := "ordered", desc := "(I)I" } : Jvm.MethodName)) ∈ aw_ws := aw_t4 (List.mem_of_getElem? (i := 200) (by decide +kernel)) rfl
theorem wd_4_202 : (Jvm.Cond.instanceMethod ({ cls := "AppendStoreModel", name := "ordered", desc := "(I)I" } : Jvm.MethodName)) ∈ aw_ws := aw_t4 (List.mem_of_getElem? (i := 202) (by decide +kernel)) rfl
theorem wd_4_203 : (Jvm.Cond.code ({ cls := "AppendStoreModel", name := "ordered", desc := "(I)I" } : Jvm.MethodName) prog_11_method_20_code (5 : Nat) (Option.some Jvm.ClassFile.FieldType.int)) ∈ aw_ws := aw_t4 (List.mem_of_getElem? (i := 203) (by decide +kernel)) rfl
theorem wd_4_204 : (Jvm.Cond.methodLink "AppendStoreModel" (92 : Nat) ({ cls := "AppendStoreModel", name := "comesBefore", desc := "(II)Z" } : Jvm.MethodName)) ∈ aw_ws := aw_t4 (List.mem_of_getElem? (i := 204) (by decide +kernel)) rfl
theorem wd_4_206 : (Jvm.Cond.instanceMethod ({ cls := "AppendStoreModel", name := "comesBefore", desc := "(II)Z" } : Jvm.MethodName)) ∈ aw_ws := aw_t4 (List.mem_of_getElem? (i := 206) (by decide +kernel)) rfl
theorem wd_4_207 : (Jvm.Cond.code ({ cls := "AppendStoreModel", name := "comesBefore", desc := "(II)Z" } : Jvm.MethodName) prog_11_method_21_code (4 : Nat) (Option.some Jvm.ClassFile.FieldType.boolean)) ∈ aw_ws := aw_t4 (List.mem_of_getElem? (i := 207) (by decide +kernel)) rfl
theorem wd_4_208 : (Jvm.Cond.methodLink "AppendStoreModel" (96 : Nat) ({ cls := "AppendStoreModel", name := "letter", desc := "(II)I" } : Jvm.MethodName)) ∈ aw_ws := aw_t4 (List.mem_of_getElem? (i := 208) (by decide +kernel)) rfl
theorem wd_4_210 : (Jvm.Cond.instanceMethod ({ cls := "AppendStoreModel", name := "letter", desc := "(II)I" } : Jvm.MethodName)) ∈ aw_ws := aw_t4 (List.mem_of_getElem? (i := 210) (by decide +kernel)) rfl
theorem wd_4_211 : (Jvm.Cond.code ({ cls := "AppendStoreModel", name := "letter", desc := "(II)I" } : Jvm.MethodName) prog_11_method_19_code (3 : Nat) (Option.some Jvm.ClassFile.FieldType.int)) ∈ aw_ws := aw_t4 (List.mem_of_getElem? (i := 211) (by decide +kernel)) rfl
theorem wd_4_224 : (Jvm.Cond.methodLink "AppendStoreModel" (181 : Nat) ({ cls := "AppendStoreModel", name := "tells", desc := "(I)Z" } : Jvm.MethodName)) ∈ aw_ws := aw_t4 (List.mem_of_getElem? (i := 224) (by decide +kernel)) rfl
theorem wd_4_226 : (Jvm.Cond.instanceMethod ({ cls := "AppendStoreModel", name := "tells", desc := "(I)Z" } : Jvm.MethodName)) ∈ aw_ws := aw_t4 (List.mem_of_getElem? (i := 226) (by decide +kernel)) rfl
theorem wd_4_227 : (Jvm.Cond.code ({ cls := "AppendStoreModel", name := "tells", desc := "(I)Z" } : Jvm.MethodName) prog_11_method_33_code (8 : Nat) (Option.some Jvm.ClassFile.FieldType.boolean)) ∈ aw_ws := aw_t4 (List.mem_of_getElem? (i := 227) (by decide +kernel)) rfl
theorem wd_4_228 : (Jvm.Cond.methodLink "AppendStoreModel" (184 : Nat) ({ cls := "AppendStoreModel", name := "openHint", desc := "(I)V" } : Jvm.MethodName)) ∈ aw_ws := aw_t4 (List.mem_of_getElem? (i := 228) (by decide +kernel)) rfl
theorem wd_4_230 : (Jvm.Cond.instanceMethod ({ cls := "AppendStoreModel", name := "openHint", desc := "(I)V" } : Jvm.MethodName)) ∈ aw_ws := aw_t4 (List.mem_of_getElem? (i := 230) (by decide +kernel)) rfl
theorem wd_4_231 : (Jvm.Cond.code ({ cls := "AppendStoreModel", name := "openHint", desc := "(I)V" } : Jvm.MethodName) prog_11_method_36_code (5 : Nat) (Option.none : Option Jvm.ClassFile.FieldType)) ∈ aw_ws := aw_t4 (List.mem_of_getElem? (i := 231) (by decide +kernel)) rfl
theorem wd_4_232 : (Jvm.Cond.methodLink "AppendStoreModel" (187 : Nat) ({ cls := "AppendStoreModel", name := "openRecords", desc := "(I)V" } : Jvm.MethodName)) ∈ aw_ws := aw_t4 (List.mem_of_getElem? (i := 232) (by decide +kernel)) rfl
theorem wd_4_234 : (Jvm.Cond.instanceMethod ({ cls := "AppendStoreModel", name := "openRecords", desc := "(I)V" } : Jvm.MethodName)) ∈ aw_ws := aw_t4 (List.mem_of_getElem? (i := 234) (by decide +kernel)) rfl
theorem wd_4_235 : (Jvm.Cond.code ({ cls := "AppendStoreModel", name := "openRecords", desc := "(I)V" } : Jvm.MethodName) prog_11_method_35_code (7 : Nat) (Option.none : Option Jvm.ClassFile.FieldType)) ∈ aw_ws := aw_t4 (List.mem_of_getElem? (i := 235) (by decide +kernel)) rfl
theorem wd_4_236 : (Jvm.Cond.methodLink "AppendStoreModel" (178 : Nat) ({ cls := "AppendStoreModel", name := "isRecord", desc := "(II)Z" } : Jvm.MethodName)) ∈ aw_ws := aw_t4 (List.mem_of_getElem? (i := 236) (by decide +kernel)) rfl
theorem wd_4_238 : (Jvm.Cond.instanceMethod ({ cls := "AppendStoreModel", name := "isRecord", desc := "(II)Z" } : Jvm.MethodName)) ∈ aw_ws := aw_t4 (List.mem_of_getElem? (i := 238) (by decide +kernel)) rfl
theorem wd_4_239 : (Jvm.Cond.code ({ cls := "AppendStoreModel", name := "isRecord", desc := "(II)Z" } : Jvm.MethodName) prog_11_method_34_code (7 : Nat) (Option.some Jvm.ClassFile.FieldType.boolean)) ∈ aw_ws := aw_t4 (List.mem_of_getElem? (i := 239) (by decide +kernel)) rfl
theorem wd_5_4 : (Jvm.Cond.methodLink "AppendStoreModel" (205 : Nat) ({ cls := "AppendStoreModel", name := "skip", desc := "()V" } : Jvm.MethodName)) ∈ aw_ws := aw_t5 (List.mem_of_getElem? (i := 4) (by decide +kernel)) rfl
theorem wd_5_6 : (Jvm.Cond.instanceMethod ({ cls := "AppendStoreModel", name := "skip", desc := "()V" } : Jvm.MethodName)) ∈ aw_ws := aw_t5 (List.mem_of_getElem? (i := 6) (by decide +kernel)) rfl
theorem wd_5_7 : (Jvm.Cond.code ({ cls := "AppendStoreModel", name := "skip", desc := "()V" } : Jvm.MethodName) prog_11_method_38_code (1 : Nat) (Option.none : Option Jvm.ClassFile.FieldType)) ∈ aw_ws := aw_t5 (List.mem_of_getElem? (i := 7) (by decide +kernel)) rfl
theorem wd_5_8 : (Jvm.Cond.methodLink "AppendStoreModel" (215 : Nat) ({ cls := "AppendStoreModel", name := "comeToNext", desc := "()V" } : Jvm.MethodName)) ∈ aw_ws := aw_t5 (List.mem_of_getElem? (i := 8) (by decide +kernel)) rfl
theorem wd_5_10 : (Jvm.Cond.instanceMethod ({ cls := "AppendStoreModel", name := "comeToNext", desc := "()V" } : Jvm.MethodName)) ∈ aw_ws := aw_t5 (List.mem_of_getElem? (i := 10) (by decide +kernel)) rfl
theorem wd_5_11 : (Jvm.Cond.code ({ cls := "AppendStoreModel", name := "comeToNext", desc := "()V" } : Jvm.MethodName) prog_11_method_39_code (6 : Nat) (Option.none : Option Jvm.ClassFile.FieldType)) ∈ aw_ws := aw_t5 (List.mem_of_getElem? (i := 11) (by decide +kernel)) rfl
theorem wd_5_12 : (Jvm.Cond.methodLink "AppendStoreModel" (199 : Nat) ({ cls := "AppendStoreModel", name := "live", desc := "(II)I" } : Jvm.MethodName)) ∈ aw_ws := aw_t5 (List.mem_of_getElem? (i := 12) (by decide +kernel)) rfl
theorem wd_5_14 : (Jvm.Cond.instanceMethod ({ cls := "AppendStoreModel", name := "live", desc := "(II)I" } : Jvm.MethodName)) ∈ aw_ws := aw_t5 (List.mem_of_getElem? (i := 14) (by decide +kernel)) rfl
theorem wd_5_15 : (Jvm.Cond.code ({ cls := "AppendStoreModel", name := "live", desc := "(II)I" } : Jvm.MethodName) prog_11_method_17_code (4 : Nat) (Option.some Jvm.ClassFile.FieldType.int)) ∈ aw_ws := aw_t5 (List.mem_of_getElem? (i := 15) (by decide +kernel)) rfl
theorem wd_5_16 : (Jvm.Cond.methodLink "AppendStoreModel" (218 : Nat) ({ cls := "AppendStoreModel", name := "publish", desc := "()V" } : Jvm.MethodName)) ∈ aw_ws := aw_t5 (List.mem_of_getElem? (i := 16) (by decide +kernel)) rfl
theorem wd_5_18 : (Jvm.Cond.instanceMethod ({ cls := "AppendStoreModel", name := "publish", desc := "()V" } : Jvm.MethodName)) ∈ aw_ws := aw_t5 (List.mem_of_getElem? (i := 18) (by decide +kernel)) rfl
theorem wd_5_19 : (Jvm.Cond.code ({ cls := "AppendStoreModel", name := "publish", desc := "()V" } : Jvm.MethodName) prog_11_method_41_code (5 : Nat) (Option.none : Option Jvm.ClassFile.FieldType)) ∈ aw_ws := aw_t5 (List.mem_of_getElem? (i := 19) (by decide +kernel)) rfl
theorem wd_5_20 : (Jvm.Cond.constant "AppendStoreModel" (208 : Nat) (100000 : Int32)) ∈ aw_ws := aw_t5 (List.mem_of_getElem? (i := 20) (by decide +kernel)) rfl
theorem wd_5_21 : (Jvm.Cond.methodLink "AppendStoreModel" (209 : Nat) ({ cls := "AppendStoreModel", name := "makeHint", desc := "(I)V" } : Jvm.MethodName)) ∈ aw_ws := aw_t5 (List.mem_of_getElem? (i := 21) (by decide +kernel)) rfl
theorem wd_5_23 : (Jvm.Cond.instanceMethod ({ cls := "AppendStoreModel", name := "makeHint", desc := "(I)V" } : Jvm.MethodName)) ∈ aw_ws := aw_t5 (List.mem_of_getElem? (i := 23) (by decide +kernel)) rfl
theorem wd_5_24 : (Jvm.Cond.code ({ cls := "AppendStoreModel", name := "makeHint", desc := "(I)V" } : Jvm.MethodName) prog_11_method_40_code (7 : Nat) (Option.none : Option Jvm.ClassFile.FieldType)) ∈ aw_ws := aw_t5 (List.mem_of_getElem? (i := 24) (by decide +kernel)) rfl
theorem wd_5_25 : (Jvm.Cond.methodLink "AppendStoreModel" (212 : Nat) ({ cls := "AppendStoreModel", name := "copyRow", desc := "(II)V" } : Jvm.MethodName)) ∈ aw_ws := aw_t5 (List.mem_of_getElem? (i := 25) (by decide +kernel)) rfl
theorem wd_5_27 : (Jvm.Cond.instanceMethod ({ cls := "AppendStoreModel", name := "copyRow", desc := "(II)V" } : Jvm.MethodName)) ∈ aw_ws := aw_t5 (List.mem_of_getElem? (i := 27) (by decide +kernel)) rfl
theorem wd_5_28 : (Jvm.Cond.code ({ cls := "AppendStoreModel", name := "copyRow", desc := "(II)V" } : Jvm.MethodName) prog_11_method_13_code (4 : Nat) (Option.none : Option Jvm.ClassFile.FieldType)) ∈ aw_ws := aw_t5 (List.mem_of_getElem? (i := 28) (by decide +kernel)) rfl
theorem wd_5_37 : (Jvm.Cond.methodLink "AppendStoreModel" (221 : Nat) ({ cls := "AppendStoreModel", name := "liveIn", desc := "(I)I" } : Jvm.MethodName)) ∈ aw_ws := aw_t5 (List.mem_of_getElem? (i := 37) (by decide +kernel)) rfl
theorem wd_5_39 : (Jvm.Cond.instanceMethod ({ cls := "AppendStoreModel", name := "liveIn", desc := "(I)I" } : Jvm.MethodName)) ∈ aw_ws := aw_t5 (List.mem_of_getElem? (i := 39) (by decide +kernel)) rfl
theorem wd_5_40 : (Jvm.Cond.code ({ cls := "AppendStoreModel", name := "liveIn", desc := "(I)I" } : Jvm.MethodName) prog_11_method_45_code (4 : Nat) (Option.some Jvm.ClassFile.FieldType.int)) ∈ aw_ws := aw_t5 (List.mem_of_getElem? (i := 40) (by decide +kernel)) rfl
theorem wd_5_45 : (Jvm.Cond.methodLink "AppendStoreModel" (224 : Nat) ({ cls := "AppendStoreModel", name := "isByte", desc := "(IIZ)Z" } : Jvm.MethodName)) ∈ aw_ws := aw_t5 (List.mem_of_getElem? (i := 45) (by decide +kernel)) rfl
theorem wd_5_47 : (Jvm.Cond.instanceMethod ({ cls := "AppendStoreModel", name := "isByte", desc := "(IIZ)Z" } : Jvm.MethodName)) ∈ aw_ws := aw_t5 (List.mem_of_getElem? (i := 47) (by decide +kernel)) rfl
theorem wd_5_48 : (Jvm.Cond.code ({ cls := "AppendStoreModel", name := "isByte", desc := "(IIZ)Z" } : Jvm.MethodName) prog_11_method_46_code (4 : Nat) (Option.some Jvm.ClassFile.FieldType.boolean)) ∈ aw_ws := aw_t5 (List.mem_of_getElem? (i := 48) (by decide +kernel)) rfl
theorem au_A : ∀ w ∈ u_ws aR_A aT_A 5, w ∈ aw_ws := by
  intro w hw
  obtain ⟨k, hk, rfl⟩ := List.mem_map.mp hw
  have hk := List.mem_range.mp hk
  rcases (show k = 0 ∨ k = 1 ∨ k = 2 ∨ k = 3 ∨ k = 4 by omega) with rfl | rfl | rfl | rfl | rfl
  · exact wd_1_159
  · exact wd_1_161
  · exact wd_1_163
  · exact wd_1_165
  · exact wd_1_167
theorem ac_A : aw_C 0 := ⟨_, _, _, aY_A, rfl, aY_A_ok, aN_A⟩
theorem at_A (k : Nat) : (aT_A k).1 = aR_A := by unfold aT_A; split <;> rfl
theorem aw_T_of_A (k : Nat) (hk : k < 5) {fin : Bool} (hf : (aT_A k).2.2.2 = fin) : aw_T 0 k (aY_A k) fin := ⟨_, _, _, rfl, aY_A_ok k hk, hf, at_A k⟩
theorem au_D : ∀ w ∈ u_ws aR_D aT_D 2, w ∈ aw_ws := by
  intro w hw
  obtain ⟨k, hk, rfl⟩ := List.mem_map.mp hw
  have hk := List.mem_range.mp hk
  rcases (show k = 0 ∨ k = 1 by omega) with rfl | rfl
  · exact wd_1_125
  · exact wd_1_127
theorem ac_D : aw_C 1 := ⟨_, _, _, aY_D, rfl, aY_D_ok, aN_D⟩
theorem at_D (k : Nat) : (aT_D k).1 = aR_D := by unfold aT_D; split <;> rfl
theorem aw_T_of_D (k : Nat) (hk : k < 2) {fin : Bool} (hf : (aT_D k).2.2.2 = fin) : aw_T 1 k (aY_D k) fin := ⟨_, _, _, rfl, aY_D_ok k hk, hf, at_D k⟩
theorem au_G : ∀ w ∈ u_ws aR_G aT_G 5, w ∈ aw_ws := by
  intro w hw
  obtain ⟨k, hk, rfl⟩ := List.mem_map.mp hw
  have hk := List.mem_range.mp hk
  rcases (show k = 0 ∨ k = 1 ∨ k = 2 ∨ k = 3 ∨ k = 4 by omega) with rfl | rfl | rfl | rfl | rfl
  · exact wd_1_143
  · exact wd_1_145
  · exact wd_1_147
  · exact wd_1_149
  · exact wd_1_151
theorem ac_G : aw_C 2 := ⟨_, _, _, aY_G, rfl, aY_G_ok, aN_G⟩
theorem at_G (k : Nat) : (aT_G k).1 = aR_G := by unfold aT_G; split <;> rfl
theorem aw_T_of_G (k : Nat) (hk : k < 5) {fin : Bool} (hf : (aT_G k).2.2.2 = fin) : aw_T 2 k (aY_G k) fin := ⟨_, _, _, rfl, aY_G_ok k hk, hf, at_G k⟩
theorem au_O : ∀ w ∈ u_ws aR_O aT_O 2, w ∈ aw_ws := by
  intro w hw
  obtain ⟨k, hk, rfl⟩ := List.mem_map.mp hw
  have hk := List.mem_range.mp hk
  rcases (show k = 0 ∨ k = 1 by omega) with rfl | rfl
  · exact wd_1_47
  · exact wd_1_49
theorem ac_O : aw_C 3 := ⟨_, _, _, aY_O, rfl, aY_O_ok, aN_O⟩
theorem at_O (k : Nat) : (aT_O k).1 = aR_O := by unfold aT_O; split <;> rfl
theorem aw_T_of_O (k : Nat) (hk : k < 2) {fin : Bool} (hf : (aT_O k).2.2.2 = fin) : aw_T 3 k (aY_O k) fin := ⟨_, _, _, rfl, aY_O_ok k hk, hf, at_O k⟩
theorem au_R : ∀ w ∈ u_ws aR_R aT_R 5, w ∈ aw_ws := by
  intro w hw
  obtain ⟨k, hk, rfl⟩ := List.mem_map.mp hw
  have hk := List.mem_range.mp hk
  rcases (show k = 0 ∨ k = 1 ∨ k = 2 ∨ k = 3 ∨ k = 4 by omega) with rfl | rfl | rfl | rfl | rfl
  · exact wd_1_73
  · exact wd_1_75
  · exact wd_1_77
  · exact wd_1_79
  · exact wd_1_81
theorem ac_R : aw_C 4 := ⟨_, _, _, aY_R, rfl, aY_R_ok, aN_R⟩
theorem at_R (k : Nat) : (aT_R k).1 = aR_R := by unfold aT_R; split <;> rfl
theorem aw_T_of_R (k : Nat) (hk : k < 5) {fin : Bool} (hf : (aT_R k).2.2.2 = fin) : aw_T 4 k (aY_R k) fin := ⟨_, _, _, rfl, aY_R_ok k hk, hf, at_R k⟩
theorem au_S : ∀ w ∈ u_ws aR_S aT_S 4, w ∈ aw_ws := by
  intro w hw
  obtain ⟨k, hk, rfl⟩ := List.mem_map.mp hw
  have hk := List.mem_range.mp hk
  rcases (show k = 0 ∨ k = 1 ∨ k = 2 ∨ k = 3 by omega) with rfl | rfl | rfl | rfl
  · exact wd_1_107
  · exact wd_1_109
  · exact wd_1_111
  · exact wd_1_113
theorem ac_S : aw_C 5 := ⟨_, _, _, aY_S, rfl, aY_S_ok, aN_S⟩
theorem at_S (k : Nat) : (aT_S k).1 = aR_S := by unfold aT_S; split <;> rfl
theorem aw_T_of_S (k : Nat) (hk : k < 4) {fin : Bool} (hf : (aT_S k).2.2.2 = fin) : aw_T 5 k (aY_S k) fin := ⟨_, _, _, rfl, aY_S_ok k hk, hf, at_S k⟩
theorem au_F : ∀ w ∈ u_ws aR_F aT_F 6, w ∈ aw_ws := by
  intro w hw
  obtain ⟨k, hk, rfl⟩ := List.mem_map.mp hw
  have hk := List.mem_range.mp hk
  rcases (show k = 0 ∨ k = 1 ∨ k = 2 ∨ k = 3 ∨ k = 4 ∨ k = 5 by omega) with rfl | rfl | rfl | rfl | rfl | rfl
  · exact wd_1_90
  · exact wd_1_92
  · exact wd_1_94
  · exact wd_1_96
  · exact wd_1_98
  · exact wd_1_100
theorem ac_F : aw_C 6 := ⟨_, _, _, aY_F, rfl, aY_F_ok, aN_F⟩
theorem at_F (k : Nat) : (aT_F k).1 = aR_F := by unfold aT_F; split <;> rfl
theorem aw_T_of_F (k : Nat) (hk : k < 6) {fin : Bool} (hf : (aT_F k).2.2.2 = fin) : aw_T 6 k (aY_F k) fin := ⟨_, _, _, rfl, aY_F_ok k hk, hf, at_F k⟩
theorem au_M : ∀ w ∈ u_ws aR_M aT_M 29, w ∈ aw_ws := by
  intro w hw
  obtain ⟨k, hk, rfl⟩ := List.mem_map.mp hw
  have hk := List.mem_range.mp hk
  rcases (show k = 0 ∨ k = 1 ∨ k = 2 ∨ k = 3 ∨ k = 4 ∨ k = 5 ∨ k = 6 ∨ k = 7 ∨ k = 8 ∨ k = 9 ∨ k = 10 ∨ k = 11 ∨ k = 12 ∨ k = 13 ∨ k = 14 ∨ k = 15 ∨ k = 16 ∨ k = 17 ∨ k = 18 ∨ k = 19 ∨ k = 20 ∨ k = 21 ∨ k = 22 ∨ k = 23 ∨ k = 24 ∨ k = 25 ∨ k = 26 ∨ k = 27 ∨ k = 28 by omega) with rfl | rfl | rfl | rfl | rfl | rfl | rfl | rfl | rfl | rfl | rfl | rfl | rfl | rfl | rfl | rfl | rfl | rfl | rfl | rfl | rfl | rfl | rfl | rfl | rfl | rfl | rfl | rfl | rfl
  · exact wd_4_42
  · exact wd_4_44
  · exact wd_4_46
  · exact wd_4_48
  · exact wd_4_50
  · exact wd_4_52
  · exact wd_4_54
  · exact wd_4_56
  · exact wd_4_58
  · exact wd_4_60
  · exact wd_4_62
  · exact wd_4_64
  · exact wd_4_66
  · exact wd_4_68
  · exact wd_4_70
  · exact wd_4_72
  · exact wd_4_74
  · exact wd_4_76
  · exact wd_4_78
  · exact wd_4_80
  · exact wd_4_82
  · exact wd_4_84
  · exact wd_4_86
  · exact wd_4_88
  · exact wd_4_90
  · exact wd_4_92
  · exact wd_4_94
  · exact wd_4_96
  · exact wd_4_98
theorem ac_M : aw_C 7 := ⟨_, _, _, aY_M, rfl, aY_M_ok, aN_M⟩
theorem at_M (k : Nat) : (aT_M k).1 = aR_M := by unfold aT_M; split <;> rfl
theorem aw_T_of_M (k : Nat) (hk : k < 29) {fin : Bool} (hf : (aT_M k).2.2.2 = fin) : aw_T 7 k (aY_M k) fin := ⟨_, _, _, rfl, aY_M_ok k hk, hf, at_M k⟩
theorem fl_A_10 : aw_F aR_A 10 0 0 := ⟨_, _, _, rfl, by decide, au_A, Or.inl wd_1_154⟩
theorem fl_A_19 : aw_F aR_A 19 0 1 := ⟨_, _, _, rfl, by decide, au_A, Or.inl wd_1_155⟩
theorem fl_A_26 : aw_F aR_A 26 0 2 := ⟨_, _, _, rfl, by decide, au_A, Or.inl wd_1_156⟩
theorem fl_A_30 : aw_F aR_A 30 0 3 := ⟨_, _, _, rfl, by decide, au_A, Or.inl wd_1_157⟩
theorem fl_A_34 : aw_F aR_A 34 0 4 := ⟨_, _, _, rfl, by decide, au_A, Or.inl wd_1_158⟩
theorem fl_D_13 : aw_F aR_D 13 1 0 := ⟨_, _, _, rfl, by decide, au_D, Or.inl wd_1_123⟩
theorem fl_D_19 : aw_F aR_D 19 1 1 := ⟨_, _, _, rfl, by decide, au_D, Or.inl wd_1_124⟩
theorem fl_D_31 : aw_F aR_D 31 4 2 := ⟨_, _, _, rfl, by decide, au_R, Or.inl wd_1_66⟩
theorem fl_G_11 : aw_F aR_G 11 2 0 := ⟨_, _, _, rfl, by decide, au_G, Or.inl wd_1_138⟩
theorem fl_G_18 : aw_F aR_G 18 2 2 := ⟨_, _, _, rfl, by decide, au_G, Or.inl wd_1_140⟩
theorem fl_G_22 : aw_F aR_G 22 2 1 := ⟨_, _, _, rfl, by decide, au_G, Or.inl wd_1_139⟩
theorem fl_G_25 : aw_F aR_G 25 2 3 := ⟨_, _, _, rfl, by decide, au_G, Or.inl wd_1_141⟩
theorem fl_G_28 : aw_F aR_G 28 2 4 := ⟨_, _, _, rfl, by decide, au_G, Or.inl wd_1_142⟩
theorem fl_G_88 : aw_F aR_G 88 4 4 := ⟨_, _, _, rfl, by decide, au_R, Or.inl wd_1_71⟩
theorem fl_O_7 : aw_F aR_O 7 3 0 := ⟨_, _, _, rfl, by decide, au_O, Or.inl wd_1_45⟩
theorem fl_O_13 : aw_F aR_O 13 3 1 := ⟨_, _, _, rfl, by decide, au_O, Or.inl wd_1_46⟩
theorem fl_R_7 : aw_F aR_R 7 4 3 := ⟨_, _, _, rfl, by decide, au_R, Or.inl wd_1_69⟩
theorem fl_R_15 : aw_F aR_R 15 4 2 := ⟨_, _, _, rfl, by decide, au_R, Or.inl wd_1_65⟩
theorem fl_R_33 : aw_F aR_R 33 4 0 := ⟨_, _, _, rfl, by decide, au_R, Or.inl wd_1_60⟩
theorem fl_R_42 : aw_F aR_R 42 4 1 := ⟨_, _, _, rfl, by decide, au_R, Or.inl wd_1_62⟩
theorem fl_S_11 : aw_F aR_S 11 5 0 := ⟨_, _, _, rfl, by decide, au_S, Or.inl wd_1_103⟩
theorem fl_S_18 : aw_F aR_S 18 5 1 := ⟨_, _, _, rfl, by decide, au_S, Or.inl wd_1_104⟩
theorem fl_S_22 : aw_F aR_S 22 5 2 := ⟨_, _, _, rfl, by decide, au_S, Or.inl wd_1_105⟩
theorem fl_S_26 : aw_F aR_S 26 5 3 := ⟨_, _, _, rfl, by decide, au_S, Or.inl wd_1_106⟩
theorem fl_F_14 : aw_F aR_F 14 6 0 := ⟨_, _, _, rfl, by decide, au_F, Or.inl wd_1_84⟩
theorem fl_F_20 : aw_F aR_F 20 6 1 := ⟨_, _, _, rfl, by decide, au_F, Or.inl wd_1_85⟩
theorem fl_F_25 : aw_F aR_F 25 6 2 := ⟨_, _, _, rfl, by decide, au_F, Or.inl wd_1_86⟩
theorem fl_F_33 : aw_F aR_F 33 6 3 := ⟨_, _, _, rfl, by decide, au_F, Or.inl wd_1_87⟩
theorem fl_F_37 : aw_F aR_F 37 6 4 := ⟨_, _, _, rfl, by decide, au_F, Or.inl wd_1_88⟩
theorem fl_F_40 : aw_F aR_F 40 6 5 := ⟨_, _, _, rfl, by decide, au_F, Or.inl wd_1_89⟩
theorem fl_F_92 : aw_F aR_F 92 4 2 := ⟨_, _, _, rfl, by decide, au_R, Or.inl wd_1_68⟩
theorem fl_F_96 : aw_F aR_F 96 4 3 := ⟨_, _, _, rfl, by decide, au_R, Or.inl wd_1_70⟩
theorem fl_F_101 : aw_F aR_F 101 4 1 := ⟨_, _, _, rfl, by decide, au_R, Or.inl wd_1_64⟩
theorem fl_F_142 : aw_F aR_F 142 4 0 := ⟨_, _, _, rfl, by decide, au_R, Or.inl wd_1_61⟩
theorem fl_F_146 : aw_F aR_F 146 4 4 := ⟨_, _, _, rfl, by decide, au_R, Or.inl wd_1_72⟩
theorem fl_M_7 : aw_F aR_M 7 7 2 := ⟨_, _, _, rfl, by decide, au_M, Or.inl wd_4_15⟩
theorem fl_M_13 : aw_F aR_M 13 7 3 := ⟨_, _, _, rfl, by decide, au_M, Or.inl wd_4_16⟩
theorem fl_M_16 : aw_F aR_M 16 7 4 := ⟨_, _, _, rfl, by decide, au_M, Or.inl wd_4_17⟩
theorem fl_M_19 : aw_F aR_M 19 7 5 := ⟨_, _, _, rfl, by decide, au_M, Or.inl wd_4_18⟩
theorem fl_M_22 : aw_F aR_M 22 7 6 := ⟨_, _, _, rfl, by decide, au_M, Or.inl wd_4_19⟩
theorem fl_M_26 : aw_F aR_M 26 7 7 := ⟨_, _, _, rfl, by decide, au_M, Or.inl wd_4_20⟩
theorem fl_M_29 : aw_F aR_M 29 7 8 := ⟨_, _, _, rfl, by decide, au_M, Or.inl wd_4_21⟩
theorem fl_M_32 : aw_F aR_M 32 7 9 := ⟨_, _, _, rfl, by decide, au_M, Or.inl wd_4_22⟩
theorem fl_M_35 : aw_F aR_M 35 7 10 := ⟨_, _, _, rfl, by decide, au_M, Or.inl wd_4_23⟩
theorem fl_M_38 : aw_F aR_M 38 7 11 := ⟨_, _, _, rfl, by decide, au_M, Or.inl wd_4_24⟩
theorem fl_M_41 : aw_F aR_M 41 7 12 := ⟨_, _, _, rfl, by decide, au_M, Or.inl wd_4_25⟩
theorem fl_M_44 : aw_F aR_M 44 7 13 := ⟨_, _, _, rfl, by decide, au_M, Or.inl wd_4_26⟩
theorem fl_M_47 : aw_F aR_M 47 7 14 := ⟨_, _, _, rfl, by decide, au_M, Or.inl wd_4_27⟩
theorem fl_M_50 : aw_F aR_M 50 7 16 := ⟨_, _, _, rfl, by decide, au_M, Or.inl wd_4_29⟩
theorem fl_M_54 : aw_F aR_M 54 7 17 := ⟨_, _, _, rfl, by decide, au_M, Or.inl wd_4_30⟩
theorem fl_M_57 : aw_F aR_M 57 7 18 := ⟨_, _, _, rfl, by decide, au_M, Or.inl wd_4_31⟩
theorem fl_M_60 : aw_F aR_M 60 7 19 := ⟨_, _, _, rfl, by decide, au_M, Or.inl wd_4_32⟩
theorem fl_M_63 : aw_F aR_M 63 7 0 := ⟨_, _, _, rfl, by decide, au_M, Or.inl wd_4_13⟩
theorem fl_M_85 : aw_F aR_M 85 7 15 := ⟨_, _, _, rfl, by decide, au_M, Or.inl wd_4_28⟩
theorem fl_M_99 : aw_F aR_M 99 7 1 := ⟨_, _, _, rfl, by decide, au_M, Or.inl wd_4_14⟩
theorem fl_M_102 : aw_F aR_M 102 7 20 := ⟨_, _, _, rfl, by decide, au_M, Or.inl wd_4_33⟩
theorem fl_M_114 : aw_F aR_M 114 7 22 := ⟨_, _, _, rfl, by decide, au_M, Or.inl wd_4_35⟩
theorem fl_M_125 : aw_F aR_M 125 7 23 := ⟨_, _, _, rfl, by decide, au_M, Or.inl wd_4_36⟩
theorem fl_M_137 : aw_F aR_M 137 7 21 := ⟨_, _, _, rfl, by decide, au_M, Or.inl wd_4_34⟩
theorem fl_M_175 : aw_F aR_M 175 7 24 := ⟨_, _, _, rfl, by decide, au_M, Or.inl wd_4_37⟩
theorem fl_M_190 : aw_F aR_M 190 7 26 := ⟨_, _, _, rfl, by decide, au_M, Or.inl wd_4_39⟩
theorem fl_M_193 : aw_F aR_M 193 7 25 := ⟨_, _, _, rfl, by decide, au_M, Or.inl wd_4_38⟩
theorem fl_M_196 : aw_F aR_M 196 7 27 := ⟨_, _, _, rfl, by decide, au_M, Or.inl wd_4_40⟩
theorem fl_M_202 : aw_F aR_M 202 7 28 := ⟨_, _, _, rfl, by decide, au_M, Or.inl wd_4_41⟩
theorem lk_A_9 : aw_L aR_A 9 y_S_init := Or.inl wd_1_28
theorem lk_A_18 : aw_L aR_A 18 y_D_init := Or.inl wd_1_118
theorem lk_A_25 : aw_L aR_A 25 y_G_init := Or.inl wd_1_132
theorem lk_A_83 : aw_L aR_A 83 y_D_count := Or.inl wd_2_64
theorem lk_A_117 : aw_L aR_A 117 y_G_drop := Or.inl wd_1_174
theorem lk_A_120 : aw_L aR_A 120 y_D_clear := Or.inl wd_1_178
theorem lk_A_123 : aw_L aR_A 123 y_S_sealActive := Or.inl wd_1_182
theorem lk_A_126 : aw_L aR_A 126 y_S_count := Or.inl wd_1_198
theorem lk_A_127 : aw_L aR_A 127 y_S_at := Or.inl wd_1_202
theorem lk_A_130 : aw_L aR_A 130 y_F_learn := Or.inl wd_1_206
theorem lk_A_136 : aw_L aR_A 136 y_A_enter := Or.inl wd_2_28
theorem lk_A_224 : aw_L aR_A 224 y_D_enter := Or.inl wd_2_40
theorem lk_A_228 : aw_L aR_A 228 y_F_recordCount := Or.inl wd_2_32
theorem lk_A_231 : aw_L aR_A 231 y_F_record := Or.inl wd_2_36
theorem lk_D_23 : aw_L aR_D 23 y_D_firstFrom := Or.inl wd_2_44
theorem lk_D_27 : aw_L aR_D 27 y_D_at := Or.inl wd_2_48
theorem lk_D_35 : aw_L aR_D 35 y_D_find := Or.inl wd_3_149
theorem lk_D_39 : aw_L aR_D 39 y_R_isTombstone := Or.inl wd_2_52
theorem lk_D_43 : aw_L aR_D 43 y_D_takeOut := Or.inl wd_2_56
theorem lk_D_47 : aw_L aR_D 47 y_D_insert := Or.inl wd_2_60
theorem lk_D_51 : aw_L aR_D 51 y_D_has := Or.inl wd_3_189
theorem lk_D_55 : aw_L aR_D 55 y_D_enter := Or.inl wd_3_190
theorem lk_K_7 : aw_L aR_K 7 y_K_missingBits := Or.inl wd_1_238
theorem lk_K_15 : aw_L aR_K 15 y_K_size := Or.inl wd_2_233
theorem lk_Y_9 : aw_L aR_Y 9 y_Y_valueBytes := Or.inl wd_2_8
theorem lk_G_17 : aw_L aR_G 17 y_F_init := Or.inl wd_1_137
theorem lk_G_31 : aw_L aR_G 31 y_G_cameToAll := Or.inl wd_3_138
theorem lk_G_35 : aw_L aR_G 35 y_S_at := Or.inl wd_3_142
theorem lk_G_41 : aw_L aR_G 41 y_F_record := Or.inl wd_3_144
theorem lk_G_45 : aw_L aR_G 45 y_D_has := Or.inl wd_3_145
theorem lk_G_51 : aw_L aR_G 51 y_R_size := Or.inl wd_3_150
theorem lk_G_57 : aw_L aR_G 57 y_G_outputFor := Or.inl wd_3_151
theorem lk_G_60 : aw_L aR_G 60 y_F_appendCopy := Or.inl wd_3_158
theorem lk_G_64 : aw_L aR_G 64 y_F_recordCount := Or.inl wd_3_143
theorem lk_G_67 : aw_L aR_G 67 y_F_number := Or.inl wd_3_175
theorem lk_G_70 : aw_L aR_G 70 y_F_publishAs := Or.inl wd_3_176
theorem lk_G_74 : aw_L aR_G 74 y_G_pointToCopies := Or.inl wd_3_182
theorem lk_G_78 : aw_L aR_G 78 y_S_exchange := Or.inl wd_3_191
theorem lk_G_82 : aw_L aR_G 82 y_S_takeOut := Or.inl wd_3_195
theorem lk_G_85 : aw_L aR_G 85 y_G_drop := Or.inl wd_3_199
theorem lk_G_92 : aw_L aR_G 92 y_D_replace := Or.inl wd_3_185
theorem lk_G_96 : aw_L aR_G 96 y_F_bytes := Or.inl wd_3_155
theorem lk_G_100 : aw_L aR_G 100 y_O_hasRoomFor := Or.inl wd_3_156
theorem lk_G_106 : aw_L aR_G 106 y_F_begin := Or.inl wd_3_157
theorem lk_O_17 : aw_L aR_O 17 y_O_has := Or.inl wd_3_3
theorem lk_O_21 : aw_L aR_O 21 y_O_addByte := Or.inl wd_2_225
theorem lk_O_25 : aw_L aR_O 25 y_O_at := Or.inl wd_1_218
theorem lk_O_31 : aw_L aR_O 31 y_O_set := Or.inl wd_2_239
theorem lk_R_19 : aw_L aR_R 19 y_K_size := Or.inl wd_3_55
theorem lk_R_25 : aw_L aR_R 25 y_R_keySize := Or.inl wd_3_51
theorem lk_R_29 : aw_L aR_R 29 y_Y_recordBytes := Or.inl wd_3_56
theorem lk_R_37 : aw_L aR_R 37 y_F_number := Or.inl wd_3_87
theorem lk_R_45 : aw_L aR_R 45 y_R_size := Or.inl wd_3_47
theorem lk_R_47 : aw_L aR_R 47 y_F_hasRightSum := Or.inl wd_3_57
theorem lk_R_51 : aw_L aR_R 51 y_F_bytes := Or.inl wd_3_63
theorem lk_R_55 : aw_L aR_R 55 y_Y_valueBytes := Or.inl wd_3_64
theorem lk_R_59 : aw_L aR_R 59 y_O_number := Or.inl wd_3_65
theorem lk_R_64 : aw_L aR_R 64 y_O_addFrom := Or.inl wd_3_166
theorem lk_S_17 : aw_L aR_S 17 y_F_init := Or.inl wd_1_35
theorem lk_S_29 : aw_L aR_S 29 y_F_bytes := Or.inl wd_2_187
theorem lk_S_33 : aw_L aR_S 33 y_O_hasRoomFor := Or.inl wd_2_191
theorem lk_S_39 : aw_L aR_S 39 y_S_sealActive := Or.inl wd_2_195
theorem lk_S_42 : aw_L aR_S 42 y_F_begin := Or.inl wd_2_196
theorem lk_S_46 : aw_L aR_S 46 y_F_syncAll := Or.inl wd_1_190
theorem lk_S_49 : aw_L aR_S 49 y_S_syncActive := Or.inl wd_1_186
theorem lk_S_52 : aw_L aR_S 52 y_F_losePower := Or.inl wd_3_110
theorem lk_F_11 : aw_L aR_F 11 y_O_init := Or.inl wd_1_41
theorem lk_F_29 : aw_L aR_F 29 y_R_init := Or.inr ⟨"AppendStore", wd_1_56⟩
theorem lk_F_30 : aw_L aR_F 30 y_O_cutTo := Or.inl wd_2_23
theorem lk_F_43 : aw_L aR_F 43 y_O_size := Or.inl wd_1_194
theorem lk_F_47 : aw_L aR_F 47 y_F_syncAll := Or.inl wd_2_27
theorem lk_F_50 : aw_L aR_F 50 y_D_has := Or.inl wd_3_219
theorem lk_F_56 : aw_L aR_F 56 y_R_size := Or.inl wd_3_220
theorem lk_F_57 : aw_L aR_F 57 y_K_size := Or.inl wd_2_220
theorem lk_F_62 : aw_L aR_F 62 y_O_addNumber := Or.inl wd_2_221
theorem lk_F_66 : aw_L aR_F 66 y_O_addByte := Or.inl wd_2_229
theorem lk_F_69 : aw_L aR_F 69 y_K_number := Or.inl wd_2_230
theorem lk_F_72 : aw_L aR_F 72 y_Y_valueBytes := Or.inl wd_2_234
theorem lk_F_76 : aw_L aR_F 76 y_O_sum := Or.inl wd_1_222
theorem lk_F_80 : aw_L aR_F 80 y_O_setSum := Or.inl wd_2_235
theorem lk_F_84 : aw_L aR_F 84 y_F_note := Or.inl wd_2_1
theorem lk_F_88 : aw_L aR_F 88 y_R_addBytesTo := Or.inl wd_3_162
theorem lk_F_99 : aw_L aR_F 99 y_O_number := Or.inl wd_1_214
theorem lk_F_104 : aw_L aR_F 104 y_O_addFrom := Or.inl wd_3_180
theorem lk_F_108 : aw_L aR_F 108 y_R_keySize := Or.inl wd_3_181
theorem lk_F_111 : aw_L aR_F 111 y_F_learnFromHint := Or.inl wd_1_210
theorem lk_F_115 : aw_L aR_F 115 y_F_learnFromBytes := Or.inl wd_2_11
theorem lk_F_118 : aw_L aR_F 118 y_O_at := Or.inl wd_1_228
theorem lk_F_121 : aw_L aR_F 121 y_Y_isKeySize := Or.inl wd_1_229
theorem lk_F_125 : aw_L aR_F 125 y_Y_isValueSize := Or.inl wd_1_232
theorem lk_F_128 : aw_L aR_F 128 y_K_rank := Or.inl wd_1_235
theorem lk_F_131 : aw_L aR_F 131 y_Y_recordBytes := Or.inl wd_2_5
theorem lk_F_135 : aw_L aR_F 135 y_F_soundSize := Or.inl wd_2_15
theorem lk_F_138 : aw_L aR_F 138 y_F_hasRightSum := Or.inl wd_2_19
theorem lk_L_60 : aw_L aR_L 60 y_A_init := Or.inl wd_1_20
theorem lk_L_63 : aw_L aR_L 63 y_M_init := Or.inl wd_4_9
theorem lk_M_73 : aw_L aR_M 73 y_M_summed := Or.inl wd_4_147
theorem lk_M_81 : aw_L aR_M 81 y_M_lengthOf := Or.inl wd_4_115
theorem lk_M_88 : aw_L aR_M 88 y_M_find := Or.inl wd_4_160
theorem lk_M_92 : aw_L aR_M 92 y_M_comesBefore := Or.inl wd_4_204
theorem lk_M_96 : aw_L aR_M 96 y_M_letter := Or.inl wd_4_208
theorem lk_M_106 : aw_L aR_M 106 y_M_putByte := Or.inl wd_4_139
theorem lk_M_110 : aw_L aR_M 110 y_M_clearRow := Or.inl wd_4_126
theorem lk_M_117 : aw_L aR_M 117 y_M_note := Or.inl wd_4_130
theorem lk_M_121 : aw_L aR_M 121 y_M_putNumber := Or.inl wd_4_134
theorem lk_M_128 : aw_L aR_M 128 y_M_sumOf := Or.inl wd_4_143
theorem lk_M_133 : aw_L aR_M 133 y_M_in := Or.inl wd_4_112
theorem lk_M_140 : aw_L aR_M 140 y_M_full := Or.inl wd_4_118
theorem lk_M_144 : aw_L aR_M 144 y_M_append := Or.inl wd_4_122
theorem lk_M_148 : aw_L aR_M 148 y_M_cut := Or.inl wd_4_153
theorem lk_M_151 : aw_L aR_M 151 y_M_set := Or.inl wd_4_156
theorem lk_M_155 : aw_L aR_M 155 y_M_unset := Or.inl wd_4_168
theorem lk_M_159 : aw_L aR_M 159 y_M_fail := Or.inl wd_4_176
theorem lk_M_163 : aw_L aR_M 163 y_M_rowOf := Or.inl wd_4_180
theorem lk_M_166 : aw_L aR_M 166 y_M_length := Or.inl wd_4_184
theorem lk_M_169 : aw_L aR_M 169 y_M_numberIn := Or.inl wd_4_188
theorem lk_M_172 : aw_L aR_M 172 y_M_ordered := Or.inl wd_4_200
theorem lk_M_178 : aw_L aR_M 178 y_M_isRecord := Or.inl wd_4_236
theorem lk_M_181 : aw_L aR_M 181 y_M_tells := Or.inl wd_4_224
theorem lk_M_184 : aw_L aR_M 184 y_M_openHint := Or.inl wd_4_228
theorem lk_M_187 : aw_L aR_M 187 y_M_openRecords := Or.inl wd_4_232
theorem lk_M_199 : aw_L aR_M 199 y_M_live := Or.inl wd_5_12
theorem lk_M_205 : aw_L aR_M 205 y_M_skip := Or.inl wd_5_4
theorem lk_M_209 : aw_L aR_M 209 y_M_makeHint := Or.inl wd_5_21
theorem lk_M_212 : aw_L aR_M 212 y_M_copyRow := Or.inl wd_5_25
theorem lk_M_215 : aw_L aR_M 215 y_M_comeToNext := Or.inl wd_5_8
theorem lk_M_218 : aw_L aR_M 218 y_M_publish := Or.inl wd_5_16
theorem lk_M_221 : aw_L aR_M 221 y_M_liveIn := Or.inl wd_5_37
theorem lk_M_224 : aw_L aR_M 224 y_M_isByte := Or.inl wd_5_45
theorem mw_A_enter : aw_Mw m_A_enter 1 := ⟨wd_2_31, wd_1_1, ⟨by decide, by decide⟩, by decide +kernel⟩
theorem mi_A_enter : aw_Mi m_A_enter := ⟨wd_2_30, aw_sel (q := (y_A_enter, 5)) (by decide +kernel)⟩
theorem mw_A_init : aw_Mw m_A_init 0 := ⟨wd_1_22, wd_1_1, ⟨by decide, by decide⟩, by decide +kernel⟩
theorem mn_A_init : Cond.instanceMethod y_A_init ∈ aw_ws := wd_1_21
theorem mw_D_at : aw_Mw m_D_at 1 := ⟨wd_2_51, wd_1_6, ⟨by decide, by decide⟩, by decide +kernel⟩
theorem mi_D_at : aw_Mi m_D_at := ⟨wd_2_49, wd_2_50⟩
theorem mw_D_clear : aw_Mw m_D_clear 0 := ⟨wd_1_181, wd_1_6, ⟨by decide, by decide⟩, by decide +kernel⟩
theorem mi_D_clear : aw_Mi m_D_clear := ⟨wd_1_179, wd_1_180⟩
theorem mw_D_count : aw_Mw m_D_count 0 := ⟨wd_2_67, wd_1_6, ⟨by decide, by decide⟩, by decide +kernel⟩
theorem mi_D_count : aw_Mi m_D_count := ⟨wd_2_65, wd_2_66⟩
theorem mw_D_enter : aw_Mw m_D_enter 1 := ⟨wd_2_43, wd_1_6, ⟨by decide, by decide⟩, by decide +kernel⟩
theorem mi_D_enter : aw_Mi m_D_enter := ⟨wd_2_41, wd_2_42⟩
theorem mw_D_find : aw_Mw m_D_find 1 := ⟨wd_3_18, wd_1_6, ⟨by decide, by decide⟩, by decide +kernel⟩
theorem mi_D_find : aw_Mi m_D_find := ⟨wd_3_16, wd_3_17⟩
theorem mw_D_firstFrom : aw_Mw m_D_firstFrom 1 := ⟨wd_2_47, wd_1_6, ⟨by decide, by decide⟩, by decide +kernel⟩
theorem mi_D_firstFrom : aw_Mi m_D_firstFrom := ⟨wd_2_46, aw_sel (q := (y_D_firstFrom, 2)) (by decide +kernel)⟩
theorem mw_D_has : aw_Mw m_D_has 1 := ⟨wd_3_148, wd_1_6, ⟨by decide, by decide⟩, by decide +kernel⟩
theorem mi_D_has : aw_Mi m_D_has := ⟨wd_3_146, wd_3_147⟩
theorem mw_D_init : aw_Mw m_D_init 0 := ⟨wd_1_120, wd_1_6, ⟨by decide, by decide⟩, by decide +kernel⟩
theorem mn_D_init : Cond.instanceMethod y_D_init ∈ aw_ws := wd_1_119
theorem mw_D_insert : aw_Mw m_D_insert 2 := ⟨wd_2_63, wd_1_6, ⟨by decide, by decide⟩, by decide +kernel⟩
theorem mi_D_insert : aw_Mi m_D_insert := ⟨wd_2_62, aw_sel (q := (y_D_insert, 2)) (by decide +kernel)⟩
theorem mw_D_replace : aw_Mw m_D_replace 2 := ⟨wd_3_188, wd_1_6, ⟨by decide, by decide⟩, by decide +kernel⟩
theorem mi_D_replace : aw_Mi m_D_replace := ⟨wd_3_186, wd_3_187⟩
theorem mw_D_takeOut : aw_Mw m_D_takeOut 1 := ⟨wd_2_59, wd_1_6, ⟨by decide, by decide⟩, by decide +kernel⟩
theorem mi_D_takeOut : aw_Mi m_D_takeOut := ⟨wd_2_58, aw_sel (q := (y_D_takeOut, 2)) (by decide +kernel)⟩
theorem mw_F_appendCopy : aw_Mw m_F_appendCopy 1 := ⟨wd_3_161, wd_1_3, ⟨by decide, by decide⟩, by decide +kernel⟩
theorem mi_F_appendCopy : aw_Mi m_F_appendCopy := ⟨wd_3_159, wd_3_160⟩
theorem mw_F_begin : aw_Mw m_F_begin 1 := ⟨wd_2_199, wd_1_3, ⟨by decide, by decide⟩, by decide +kernel⟩
theorem mi_F_begin : aw_Mi m_F_begin := ⟨wd_2_197, wd_2_198⟩
theorem mw_F_bytes : aw_Mw m_F_bytes 0 := ⟨wd_2_190, wd_1_3, ⟨by decide, by decide⟩, by decide +kernel⟩
theorem mi_F_bytes : aw_Mi m_F_bytes := ⟨wd_2_188, wd_2_189⟩
theorem mw_F_hasRightSum : aw_Mw m_F_hasRightSum 2 := ⟨wd_2_22, wd_1_3, ⟨by decide, by decide⟩, by decide +kernel⟩
theorem mi_F_hasRightSum : aw_Mi m_F_hasRightSum := ⟨wd_2_20, wd_2_21⟩
theorem mw_F_init : aw_Mw m_F_init 0 := ⟨wd_1_37, wd_1_3, ⟨by decide, by decide⟩, by decide +kernel⟩
theorem mn_F_init : Cond.instanceMethod y_F_init ∈ aw_ws := wd_1_36
theorem mw_F_learn : aw_Mw m_F_learn 1 := ⟨wd_1_209, wd_1_3, ⟨by decide, by decide⟩, by decide +kernel⟩
theorem mi_F_learn : aw_Mi m_F_learn := ⟨wd_1_207, wd_1_208⟩
theorem mw_F_learnFromBytes : aw_Mw m_F_learnFromBytes 0 := ⟨wd_2_14, wd_1_3, ⟨by decide, by decide⟩, by decide +kernel⟩
theorem mi_F_learnFromBytes : aw_Mi m_F_learnFromBytes := ⟨wd_2_13, aw_sel (q := (y_F_learnFromBytes, 6)) (by decide +kernel)⟩
theorem mw_F_learnFromHint : aw_Mw m_F_learnFromHint 0 := ⟨wd_1_213, wd_1_3, ⟨by decide, by decide⟩, by decide +kernel⟩
theorem mi_F_learnFromHint : aw_Mi m_F_learnFromHint := ⟨wd_1_212, aw_sel (q := (y_F_learnFromHint, 6)) (by decide +kernel)⟩
theorem mw_F_losePower : aw_Mw m_F_losePower 1 := ⟨wd_3_113, wd_1_3, ⟨by decide, by decide⟩, by decide +kernel⟩
theorem mi_F_losePower : aw_Mi m_F_losePower := ⟨wd_3_111, wd_3_112⟩
theorem mw_F_note : aw_Mw m_F_note 4 := ⟨wd_2_4, wd_1_3, ⟨by decide, by decide⟩, by decide +kernel⟩
theorem mi_F_note : aw_Mi m_F_note := ⟨wd_2_3, aw_sel (q := (y_F_note, 6)) (by decide +kernel)⟩
theorem mw_F_number : aw_Mw m_F_number 0 := ⟨wd_3_90, wd_1_3, ⟨by decide, by decide⟩, by decide +kernel⟩
theorem mi_F_number : aw_Mi m_F_number := ⟨wd_3_88, wd_3_89⟩
theorem mw_F_publishAs : aw_Mw m_F_publishAs 1 := ⟨wd_3_179, wd_1_3, ⟨by decide, by decide⟩, by decide +kernel⟩
theorem mi_F_publishAs : aw_Mi m_F_publishAs := ⟨wd_3_177, wd_3_178⟩
theorem mw_F_record : aw_Mw m_F_record 1 := ⟨wd_2_39, wd_1_3, ⟨by decide, by decide⟩, by decide +kernel⟩
theorem mi_F_record : aw_Mi m_F_record := ⟨wd_2_37, wd_2_38⟩
theorem mw_F_recordCount : aw_Mw m_F_recordCount 0 := ⟨wd_2_35, wd_1_3, ⟨by decide, by decide⟩, by decide +kernel⟩
theorem mi_F_recordCount : aw_Mi m_F_recordCount := ⟨wd_2_33, wd_2_34⟩
theorem mw_F_soundSize : aw_Mw m_F_soundSize 1 := ⟨wd_2_18, wd_1_3, ⟨by decide, by decide⟩, by decide +kernel⟩
theorem mi_F_soundSize : aw_Mi m_F_soundSize := ⟨wd_2_17, aw_sel (q := (y_F_soundSize, 6)) (by decide +kernel)⟩
theorem mw_F_syncAll : aw_Mw m_F_syncAll 0 := ⟨wd_1_193, wd_1_3, ⟨by decide, by decide⟩, by decide +kernel⟩
theorem mi_F_syncAll : aw_Mi m_F_syncAll := ⟨wd_1_191, wd_1_192⟩
theorem mw_G_cameToAll : aw_Mw m_G_cameToAll 1 := ⟨wd_3_141, wd_1_7, ⟨by decide, by decide⟩, by decide +kernel⟩
theorem mi_G_cameToAll : aw_Mi m_G_cameToAll := ⟨wd_3_139, wd_3_140⟩
theorem mw_G_drop : aw_Mw m_G_drop 0 := ⟨wd_1_177, wd_1_7, ⟨by decide, by decide⟩, by decide +kernel⟩
theorem mi_G_drop : aw_Mi m_G_drop := ⟨wd_1_175, wd_1_176⟩
theorem mw_G_init : aw_Mw m_G_init 0 := ⟨wd_1_134, wd_1_7, ⟨by decide, by decide⟩, by decide +kernel⟩
theorem mn_G_init : Cond.instanceMethod y_G_init ∈ aw_ws := wd_1_133
theorem mw_G_outputFor : aw_Mw m_G_outputFor 1 := ⟨wd_3_154, wd_1_7, ⟨by decide, by decide⟩, by decide +kernel⟩
theorem mi_G_outputFor : aw_Mi m_G_outputFor := ⟨wd_3_153, aw_sel (q := (y_G_outputFor, 5)) (by decide +kernel)⟩
theorem mw_G_pointToCopies : aw_Mw m_G_pointToCopies 2 := ⟨wd_3_184, wd_1_7, ⟨by decide, by decide⟩, by decide +kernel⟩
theorem ms_G_pointToCopies : Cond.static y_G_pointToCopies ∈ aw_ws := wd_3_183
theorem mw_K_missingBits : aw_Mw m_K_missingBits 1 := ⟨wd_2_0, wd_1_14, ⟨by decide, by decide⟩, by decide +kernel⟩
theorem ms_K_missingBits : Cond.static y_K_missingBits ∈ aw_ws := wd_1_239
theorem mw_K_number : aw_Mw m_K_number 1 := ⟨wd_2_232, wd_1_14, ⟨by decide, by decide⟩, by decide +kernel⟩
theorem ms_K_number : Cond.static y_K_number ∈ aw_ws := wd_2_231
theorem mw_K_rank : aw_Mw m_K_rank 2 := ⟨wd_1_237, wd_1_14, ⟨by decide, by decide⟩, by decide +kernel⟩
theorem ms_K_rank : Cond.static y_K_rank ∈ aw_ws := wd_1_236
theorem mw_K_size : aw_Mw m_K_size 1 := ⟨wd_2_180, wd_1_14, ⟨by decide, by decide⟩, by decide +kernel⟩
theorem ms_K_size : Cond.static y_K_size ∈ aw_ws := wd_2_179
theorem mw_M_append : aw_Mw m_M_append 4 := ⟨wd_4_125, wd_1_8, ⟨by decide, by decide⟩, by decide +kernel⟩
theorem mi_M_append : aw_Mi m_M_append := ⟨wd_4_124, aw_sel (q := (y_M_append, 29)) (by decide +kernel)⟩
theorem mw_M_clearRow : aw_Mw m_M_clearRow 1 := ⟨wd_4_129, wd_1_8, ⟨by decide, by decide⟩, by decide +kernel⟩
theorem mi_M_clearRow : aw_Mi m_M_clearRow := ⟨wd_4_128, aw_sel (q := (y_M_clearRow, 29)) (by decide +kernel)⟩
theorem mw_M_comeToNext : aw_Mw m_M_comeToNext 0 := ⟨wd_5_11, wd_1_8, ⟨by decide, by decide⟩, by decide +kernel⟩
theorem mi_M_comeToNext : aw_Mi m_M_comeToNext := ⟨wd_5_10, aw_sel (q := (y_M_comeToNext, 29)) (by decide +kernel)⟩
theorem mw_M_comesBefore : aw_Mw m_M_comesBefore 2 := ⟨wd_4_207, wd_1_8, ⟨by decide, by decide⟩, by decide +kernel⟩
theorem mi_M_comesBefore : aw_Mi m_M_comesBefore := ⟨wd_4_206, aw_sel (q := (y_M_comesBefore, 29)) (by decide +kernel)⟩
theorem mw_M_copyRow : aw_Mw m_M_copyRow 2 := ⟨wd_5_28, wd_1_8, ⟨by decide, by decide⟩, by decide +kernel⟩
theorem mi_M_copyRow : aw_Mi m_M_copyRow := ⟨wd_5_27, aw_sel (q := (y_M_copyRow, 29)) (by decide +kernel)⟩
theorem mw_M_cut : aw_Mw m_M_cut 2 := ⟨wd_4_155, wd_1_8, ⟨by decide, by decide⟩, by decide +kernel⟩
theorem ms_M_cut : Cond.static y_M_cut ∈ aw_ws := wd_4_154
theorem mw_M_fail : aw_Mw m_M_fail 1 := ⟨wd_4_179, wd_1_8, ⟨by decide, by decide⟩, by decide +kernel⟩
theorem mi_M_fail : aw_Mi m_M_fail := ⟨wd_4_178, aw_sel (q := (y_M_fail, 29)) (by decide +kernel)⟩
theorem mw_M_find : aw_Mw m_M_find 2 := ⟨wd_4_163, wd_1_8, ⟨by decide, by decide⟩, by decide +kernel⟩
theorem mi_M_find : aw_Mi m_M_find := ⟨wd_4_162, aw_sel (q := (y_M_find, 29)) (by decide +kernel)⟩
theorem mw_M_full : aw_Mw m_M_full 1 := ⟨wd_4_121, wd_1_8, ⟨by decide, by decide⟩, by decide +kernel⟩
theorem mi_M_full : aw_Mi m_M_full := ⟨wd_4_120, aw_sel (q := (y_M_full, 29)) (by decide +kernel)⟩
theorem mw_M_in : aw_Mw m_M_in 3 := ⟨wd_4_114, wd_1_8, ⟨by decide, by decide⟩, by decide +kernel⟩
theorem ms_M_in : Cond.static y_M_in ∈ aw_ws := wd_4_113
theorem mw_M_init : aw_Mw m_M_init 0 := ⟨wd_4_11, wd_1_8, ⟨by decide, by decide⟩, by decide +kernel⟩
theorem mn_M_init : Cond.instanceMethod y_M_init ∈ aw_ws := wd_4_10
theorem mw_M_isByte : aw_Mw m_M_isByte 3 := ⟨wd_5_48, wd_1_8, ⟨by decide, by decide⟩, by decide +kernel⟩
theorem mi_M_isByte : aw_Mi m_M_isByte := ⟨wd_5_47, aw_sel (q := (y_M_isByte, 29)) (by decide +kernel)⟩
theorem mw_M_isRecord : aw_Mw m_M_isRecord 2 := ⟨wd_4_239, wd_1_8, ⟨by decide, by decide⟩, by decide +kernel⟩
theorem mi_M_isRecord : aw_Mi m_M_isRecord := ⟨wd_4_238, aw_sel (q := (y_M_isRecord, 29)) (by decide +kernel)⟩
theorem mw_M_length : aw_Mw m_M_length 2 := ⟨wd_4_187, wd_1_8, ⟨by decide, by decide⟩, by decide +kernel⟩
theorem mi_M_length : aw_Mi m_M_length := ⟨wd_4_186, aw_sel (q := (y_M_length, 29)) (by decide +kernel)⟩
theorem mw_M_lengthOf : aw_Mw m_M_lengthOf 2 := ⟨wd_4_117, wd_1_8, ⟨by decide, by decide⟩, by decide +kernel⟩
theorem ms_M_lengthOf : Cond.static y_M_lengthOf ∈ aw_ws := wd_4_116
theorem mw_M_letter : aw_Mw m_M_letter 2 := ⟨wd_4_211, wd_1_8, ⟨by decide, by decide⟩, by decide +kernel⟩
theorem mi_M_letter : aw_Mi m_M_letter := ⟨wd_4_210, aw_sel (q := (y_M_letter, 29)) (by decide +kernel)⟩
theorem mw_M_live : aw_Mw m_M_live 2 := ⟨wd_5_15, wd_1_8, ⟨by decide, by decide⟩, by decide +kernel⟩
theorem mi_M_live : aw_Mi m_M_live := ⟨wd_5_14, aw_sel (q := (y_M_live, 29)) (by decide +kernel)⟩
theorem mw_M_liveIn : aw_Mw m_M_liveIn 1 := ⟨wd_5_40, wd_1_8, ⟨by decide, by decide⟩, by decide +kernel⟩
theorem mi_M_liveIn : aw_Mi m_M_liveIn := ⟨wd_5_39, aw_sel (q := (y_M_liveIn, 29)) (by decide +kernel)⟩
theorem mw_M_makeHint : aw_Mw m_M_makeHint 1 := ⟨wd_5_24, wd_1_8, ⟨by decide, by decide⟩, by decide +kernel⟩
theorem mi_M_makeHint : aw_Mi m_M_makeHint := ⟨wd_5_23, aw_sel (q := (y_M_makeHint, 29)) (by decide +kernel)⟩
theorem mw_M_note : aw_Mw m_M_note 4 := ⟨wd_4_133, wd_1_8, ⟨by decide, by decide⟩, by decide +kernel⟩
theorem mi_M_note : aw_Mi m_M_note := ⟨wd_4_132, aw_sel (q := (y_M_note, 29)) (by decide +kernel)⟩
theorem mw_M_numberIn : aw_Mw m_M_numberIn 3 := ⟨wd_4_190, wd_1_8, ⟨by decide, by decide⟩, by decide +kernel⟩
theorem ms_M_numberIn : Cond.static y_M_numberIn ∈ aw_ws := wd_4_189
theorem mw_M_openHint : aw_Mw m_M_openHint 1 := ⟨wd_4_231, wd_1_8, ⟨by decide, by decide⟩, by decide +kernel⟩
theorem mi_M_openHint : aw_Mi m_M_openHint := ⟨wd_4_230, aw_sel (q := (y_M_openHint, 29)) (by decide +kernel)⟩
theorem mw_M_openRecords : aw_Mw m_M_openRecords 1 := ⟨wd_4_235, wd_1_8, ⟨by decide, by decide⟩, by decide +kernel⟩
theorem mi_M_openRecords : aw_Mi m_M_openRecords := ⟨wd_4_234, aw_sel (q := (y_M_openRecords, 29)) (by decide +kernel)⟩
theorem mw_M_ordered : aw_Mw m_M_ordered 1 := ⟨wd_4_203, wd_1_8, ⟨by decide, by decide⟩, by decide +kernel⟩
theorem mi_M_ordered : aw_Mi m_M_ordered := ⟨wd_4_202, aw_sel (q := (y_M_ordered, 29)) (by decide +kernel)⟩
theorem mw_M_publish : aw_Mw m_M_publish 0 := ⟨wd_5_19, wd_1_8, ⟨by decide, by decide⟩, by decide +kernel⟩
theorem mi_M_publish : aw_Mi m_M_publish := ⟨wd_5_18, aw_sel (q := (y_M_publish, 29)) (by decide +kernel)⟩
theorem mw_M_putByte : aw_Mw m_M_putByte 2 := ⟨wd_4_142, wd_1_8, ⟨by decide, by decide⟩, by decide +kernel⟩
theorem mi_M_putByte : aw_Mi m_M_putByte := ⟨wd_4_141, aw_sel (q := (y_M_putByte, 29)) (by decide +kernel)⟩
theorem mw_M_putNumber : aw_Mw m_M_putNumber 3 := ⟨wd_4_137, wd_1_8, ⟨by decide, by decide⟩, by decide +kernel⟩
theorem mi_M_putNumber : aw_Mi m_M_putNumber := ⟨wd_4_136, aw_sel (q := (y_M_putNumber, 29)) (by decide +kernel)⟩
theorem mw_M_rowOf : aw_Mw m_M_rowOf 1 := ⟨wd_4_183, wd_1_8, ⟨by decide, by decide⟩, by decide +kernel⟩
theorem mi_M_rowOf : aw_Mi m_M_rowOf := ⟨wd_4_182, aw_sel (q := (y_M_rowOf, 29)) (by decide +kernel)⟩
theorem mw_M_set : aw_Mw m_M_set 4 := ⟨wd_4_159, wd_1_8, ⟨by decide, by decide⟩, by decide +kernel⟩
theorem mi_M_set : aw_Mi m_M_set := ⟨wd_4_158, aw_sel (q := (y_M_set, 29)) (by decide +kernel)⟩
theorem mw_M_skip : aw_Mw m_M_skip 0 := ⟨wd_5_7, wd_1_8, ⟨by decide, by decide⟩, by decide +kernel⟩
theorem mi_M_skip : aw_Mi m_M_skip := ⟨wd_5_6, aw_sel (q := (y_M_skip, 29)) (by decide +kernel)⟩
theorem mw_M_sumOf : aw_Mw m_M_sumOf 3 := ⟨wd_4_145, wd_1_8, ⟨by decide, by decide⟩, by decide +kernel⟩
theorem ms_M_sumOf : Cond.static y_M_sumOf ∈ aw_ws := wd_4_144
theorem mw_M_summed : aw_Mw m_M_summed 2 := ⟨wd_4_149, wd_1_8, ⟨by decide, by decide⟩, by decide +kernel⟩
theorem ms_M_summed : Cond.static y_M_summed ∈ aw_ws := wd_4_148
theorem mw_M_tells : aw_Mw m_M_tells 1 := ⟨wd_4_227, wd_1_8, ⟨by decide, by decide⟩, by decide +kernel⟩
theorem mi_M_tells : aw_Mi m_M_tells := ⟨wd_4_226, aw_sel (q := (y_M_tells, 29)) (by decide +kernel)⟩
theorem mw_M_unset : aw_Mw m_M_unset 2 := ⟨wd_4_171, wd_1_8, ⟨by decide, by decide⟩, by decide +kernel⟩
theorem mi_M_unset : aw_Mi m_M_unset := ⟨wd_4_170, aw_sel (q := (y_M_unset, 29)) (by decide +kernel)⟩
theorem mw_O_addByte : aw_Mw m_O_addByte 1 := ⟨wd_2_228, wd_1_4, ⟨by decide, by decide⟩, by decide +kernel⟩
theorem mi_O_addByte : aw_Mi m_O_addByte := ⟨wd_2_226, wd_2_227⟩
theorem mw_O_addFrom : aw_Mw m_O_addFrom 3 := ⟨wd_3_169, wd_1_4, ⟨by decide, by decide⟩, by decide +kernel⟩
theorem mi_O_addFrom : aw_Mi m_O_addFrom := ⟨wd_3_167, wd_3_168⟩
theorem mw_O_addNumber : aw_Mw m_O_addNumber 2 := ⟨wd_2_224, wd_1_4, ⟨by decide, by decide⟩, by decide +kernel⟩
theorem mi_O_addNumber : aw_Mi m_O_addNumber := ⟨wd_2_222, wd_2_223⟩
theorem mw_O_at : aw_Mw m_O_at 1 := ⟨wd_1_221, wd_1_4, ⟨by decide, by decide⟩, by decide +kernel⟩
theorem mi_O_at : aw_Mi m_O_at := ⟨wd_1_219, wd_1_220⟩
theorem mw_O_cutTo : aw_Mw m_O_cutTo 1 := ⟨wd_2_26, wd_1_4, ⟨by decide, by decide⟩, by decide +kernel⟩
theorem mi_O_cutTo : aw_Mi m_O_cutTo := ⟨wd_2_24, wd_2_25⟩
theorem mw_O_has : aw_Mw m_O_has 1 := ⟨wd_3_6, wd_1_4, ⟨by decide, by decide⟩, by decide +kernel⟩
theorem mi_O_has : aw_Mi m_O_has := ⟨wd_3_4, wd_3_5⟩
theorem mw_O_hasRoomFor : aw_Mw m_O_hasRoomFor 1 := ⟨wd_2_194, wd_1_4, ⟨by decide, by decide⟩, by decide +kernel⟩
theorem mi_O_hasRoomFor : aw_Mi m_O_hasRoomFor := ⟨wd_2_192, wd_2_193⟩
theorem mw_O_init : aw_Mw m_O_init 1 := ⟨wd_1_43, wd_1_4, ⟨by decide, by decide⟩, by decide +kernel⟩
theorem mn_O_init : Cond.instanceMethod y_O_init ∈ aw_ws := wd_1_42
theorem mw_O_number : aw_Mw m_O_number 2 := ⟨wd_1_217, wd_1_4, ⟨by decide, by decide⟩, by decide +kernel⟩
theorem mi_O_number : aw_Mi m_O_number := ⟨wd_1_215, wd_1_216⟩
theorem mw_O_set : aw_Mw m_O_set 2 := ⟨wd_3_2, wd_1_4, ⟨by decide, by decide⟩, by decide +kernel⟩
theorem mi_O_set : aw_Mi m_O_set := ⟨wd_3_0, wd_3_1⟩
theorem mw_O_setSum : aw_Mw m_O_setSum 2 := ⟨wd_2_238, wd_1_4, ⟨by decide, by decide⟩, by decide +kernel⟩
theorem mi_O_setSum : aw_Mi m_O_setSum := ⟨wd_2_236, wd_2_237⟩
theorem mw_O_size : aw_Mw m_O_size 0 := ⟨wd_1_197, wd_1_4, ⟨by decide, by decide⟩, by decide +kernel⟩
theorem mi_O_size : aw_Mi m_O_size := ⟨wd_1_195, wd_1_196⟩
theorem mw_O_sum : aw_Mw m_O_sum 2 := ⟨wd_1_225, wd_1_4, ⟨by decide, by decide⟩, by decide +kernel⟩
theorem mi_O_sum : aw_Mi m_O_sum := ⟨wd_1_223, wd_1_224⟩
theorem mw_R_addBytesTo : aw_Mw m_R_addBytesTo 1 := ⟨wd_3_165, wd_1_5, ⟨by decide, by decide⟩, by decide +kernel⟩
theorem mi_R_addBytesTo : aw_Mi m_R_addBytesTo := ⟨wd_3_163, wd_3_164⟩
theorem mw_R_init : aw_Mw m_R_init 0 := ⟨wd_1_58, wd_1_5, ⟨by decide, by decide⟩, by decide +kernel⟩
theorem mn_R_init : Cond.instanceMethod y_R_init ∈ aw_ws := wd_1_57
theorem mw_R_isTombstone : aw_Mw m_R_isTombstone 0 := ⟨wd_2_55, wd_1_5, ⟨by decide, by decide⟩, by decide +kernel⟩
theorem mi_R_isTombstone : aw_Mi m_R_isTombstone := ⟨wd_2_53, wd_2_54⟩
theorem mw_R_keySize : aw_Mw m_R_keySize 0 := ⟨wd_3_54, wd_1_5, ⟨by decide, by decide⟩, by decide +kernel⟩
theorem mi_R_keySize : aw_Mi m_R_keySize := ⟨wd_3_52, wd_3_53⟩
theorem mw_R_size : aw_Mw m_R_size 0 := ⟨wd_3_50, wd_1_5, ⟨by decide, by decide⟩, by decide +kernel⟩
theorem mi_R_size : aw_Mi m_R_size := ⟨wd_3_48, wd_3_49⟩
theorem mw_S_at : aw_Mw m_S_at 1 := ⟨wd_1_205, wd_1_2, ⟨by decide, by decide⟩, by decide +kernel⟩
theorem mi_S_at : aw_Mi m_S_at := ⟨wd_1_203, wd_1_204⟩
theorem mw_S_count : aw_Mw m_S_count 0 := ⟨wd_1_201, wd_1_2, ⟨by decide, by decide⟩, by decide +kernel⟩
theorem mi_S_count : aw_Mi m_S_count := ⟨wd_1_199, wd_1_200⟩
theorem mw_S_exchange : aw_Mw m_S_exchange 2 := ⟨wd_3_194, wd_1_2, ⟨by decide, by decide⟩, by decide +kernel⟩
theorem mi_S_exchange : aw_Mi m_S_exchange := ⟨wd_3_192, wd_3_193⟩
theorem mw_S_init : aw_Mw m_S_init 0 := ⟨wd_1_30, wd_1_2, ⟨by decide, by decide⟩, by decide +kernel⟩
theorem mn_S_init : Cond.instanceMethod y_S_init ∈ aw_ws := wd_1_29
theorem mw_S_sealActive : aw_Mw m_S_sealActive 0 := ⟨wd_1_185, wd_1_2, ⟨by decide, by decide⟩, by decide +kernel⟩
theorem mi_S_sealActive : aw_Mi m_S_sealActive := ⟨wd_1_183, wd_1_184⟩
theorem mw_S_syncActive : aw_Mw m_S_syncActive 0 := ⟨wd_1_189, wd_1_2, ⟨by decide, by decide⟩, by decide +kernel⟩
theorem mi_S_syncActive : aw_Mi m_S_syncActive := ⟨wd_1_187, wd_1_188⟩
theorem mw_S_takeOut : aw_Mw m_S_takeOut 1 := ⟨wd_3_198, wd_1_2, ⟨by decide, by decide⟩, by decide +kernel⟩
theorem mi_S_takeOut : aw_Mi m_S_takeOut := ⟨wd_3_196, wd_3_197⟩
theorem mw_Y_isKeySize : aw_Mw m_Y_isKeySize 1 := ⟨wd_1_231, wd_1_15, ⟨by decide, by decide⟩, by decide +kernel⟩
theorem ms_Y_isKeySize : Cond.static y_Y_isKeySize ∈ aw_ws := wd_1_230
theorem mw_Y_isValueSize : aw_Mw m_Y_isValueSize 1 := ⟨wd_1_234, wd_1_15, ⟨by decide, by decide⟩, by decide +kernel⟩
theorem ms_Y_isValueSize : Cond.static y_Y_isValueSize ∈ aw_ws := wd_1_233
theorem mw_Y_recordBytes : aw_Mw m_Y_recordBytes 2 := ⟨wd_2_7, wd_1_15, ⟨by decide, by decide⟩, by decide +kernel⟩
theorem ms_Y_recordBytes : Cond.static y_Y_recordBytes ∈ aw_ws := wd_2_6
theorem mw_Y_valueBytes : aw_Mw m_Y_valueBytes 1 := ⟨wd_2_10, wd_1_15, ⟨by decide, by decide⟩, by decide +kernel⟩
theorem ms_Y_valueBytes : Cond.static y_Y_valueBytes ∈ aw_ws := wd_2_9
end
section
/-! ===== methods that may throw ===== -/
/-- the words of a throw that speak of the heap -/
def aw_hw : List Cond := [.isRef (.static "java/lang/Throwable" "UNASSIGNED_STACK" "[Ljava/lang/StackTraceElement;"), .isRef (.static "java/lang/Throwable" "SUPPRESSED_SENTINEL" "Ljava/util/List;"), .laysStatic "java/lang/Throwable" "UNASSIGNED_STACK" "[Ljava/lang/StackTraceElement;", .laysStatic "java/lang/Throwable" "SUPPRESSED_SENTINEL" "Ljava/util/List;"]
theorem aw_Z.lays {n d : String} {base : Nat} {U : State} {A : Array Value} (h : aw_Z n d base U U.heap) : (Cond.laysStatic "java/lang/Throwable" n d).before A U = true := by
  obtain ⟨-, c, k, i, f, a, cell, h1, h2, h3, h4, h5, h6, h7, h8, h9, -⟩ := h
  show (Cond.laysStatic "java/lang/Throwable" n d).holds A U none U [] = true
  exact Cond.laysStatic_of h1 h2 h3 h4 h5 h6 h7 h8 h9
theorem aw_Zv {n d : String} {v : Value} {B : Nat → Prop} {U : State} {A : Array Value} (h : va_Z "java/lang/Throwable" n d v B U U.heap) (hv : v = .null ∨ ∃ t, v = .ref t) : (Cond.isRef (.static "java/lang/Throwable" n d)).before A U = true := by
  obtain ⟨cf, kf, fi, f, a, cell, h1, h2, h3, h4, h5, h6, h7, -⟩ := h
  have he : (Term.static "java/lang/Throwable" n d).eval A U none [] U = some v := by
    simp [Term.eval, State.fieldNamed?, h1, h2, h4, h5, h6, h7]
  simp only [Cond.before, Cond.holds, Cond.value, he]
  rcases hv with rfl | ⟨t, rfl⟩ <;> simp [Value.isRef]
theorem aw_Z.isRef {n d : String} {base : Nat} {U : State} {A : Array Value} (h : aw_Z n d base U U.heap) : (Cond.isRef (.static "java/lang/Throwable" n d)).before A U = true := by
  rcases h.1 with h | ⟨t, h⟩
  · exact aw_Zv h (Or.inl rfl)
  · exact aw_Zv h (Or.inr ⟨t, rfl⟩)
theorem aw_K.hw {D : va_G} {dA : Nat → ClassId} {base : Nat} {U : State} (h : aw_K D dA base U) {A : Array Value} {w : Cond} (hw : w ∈ aw_hw) : w.before A U = true := by
  simp only [aw_hw, List.mem_cons, List.not_mem_nil, or_false] at hw
  rcases hw with rfl | rfl | rfl | rfl
  · exact h.2.2.2.1.isRef
  · exact h.2.2.2.2.1.isRef
  · exact h.2.2.2.1.lays
  · exact h.2.2.2.2.1.lays
theorem aw_K.words {D : va_G} {dA : Nat → ClassId} {base : Nat} {U : State} (h : aw_K D dA base U) {A : Array Value} {w : Cond} (hw : w ∈ aw_hw ∨ w ∈ aw_ws) : w.before A U = true := by
  rcases hw with hw | hw
  · exact h.hw hw
  · exact aw_at (aw_ws_ok hw) (State.WarmedH.refl U) (h.2.1 w hw)
/-- how a method ends that may throw: as before, or with an object of the class E in the world w -/
def aj_xQ (D : va_G) (dA : Nat → ClassId) (base : Nat) (rm : Room) (post : Option aV → aw_W → Prop) (px : String → aw_W → Prop) : Array Value → State → Outcome → State → Prop := fun a st o t =>
  (aj_Qc D dA base post a st o t ∧ ∃ L, FrameEnd st o t L rm.cells rm.slots ∧ ∀ q ∈ L, base ≤ q.base) ∨
  (∃ (q : Addr) (E : String) (ce : Cell) (w : aw_W) (L : List Loc), o = .threw q ∧ px E w ∧ aj_post D dA base w st t ∧ t.heap[q]? = some ce ∧ ce.vm = .none ∧ st.vm.findClass E = some ce.cls ∧ st.WarmedH t.vm ∧ st.sameButNew ({ t with vm := st.vm } : State) L rm.cells rm.slots ∧ ∀ z ∈ L, base ≤ z.base)
def aj_Cx (l : Launch) (D : va_G) (dA : Nat → ClassId) (base : Nat) (M : aj_M) (rm : Room) (av : List aV) (w : aw_W) (post : Option aV → aw_W → Prop) (px : String → aw_W → Prop) : Prop :=
  MetFree l M.1 (headSpec [Cond.code M.1 M.2.1 M.2.2.1 M.2.2.2] rm) (aj_Pc D dA base av w) (fun _ _ _ _ _ => True) (aj_xQ D dA base rm post px)
def aj_finX (Γ : aj_G) (rm : Room) (post : Option aV → aw_W → Prop) (px : String → aw_W → Prop) : Prop :=
  gQ Γ = (fun t => ∃ o, t.status = .running ∧ Ended t (gb Γ) o ∧ aj_xQ (gD Γ) (gA Γ) (gB Γ) rm post px (ga Γ) (gs Γ) o t) ∧ ∀ x ∈ (gc Γ).exceptionTable.toList, False
theorem aj_finX.fin {Γ : aj_G} {rm : Room} {post : Option aV → aw_W → Prop} {px : String → aw_W → Prop} (F : aj_finX Γ rm post px) : aj_fin Γ rm post := by
  intro H locs g h T hT X
  obtain ⟨t, a1, o, b1, b2, b3, b4⟩ := h T hT X
  refine ⟨t, a1, ?_⟩
  rw [F.1]
  exact ⟨o, b1, b2, Or.inl ⟨b3, b4⟩⟩
theorem aj_enterX {l : Launch} {D : va_G} {dA : Nat → ClassId} {base : Nat} {M : aj_M} {rm : Room} {av : List aV} {w : aw_W} {post : Option aV → aw_W → Prop} {px : String → aw_W → Prop} (hl : l.stackTraces = false) (hy : plainName M.1.cls = true) (hn : aj_wd av ≤ M.2.2.1)
    (body : ∀ Γ : aj_G, aj_ok Γ M.1 M.2.1 M.2.2.1 M.2.2.2 rm → aj_finX Γ rm post px → aj_J Γ M.2.2.1 (0, 0) 0 (aj_args 0 av) [] w) : aj_Cx l D dA base M rm av w post px := by
  refine MetFree.of_bodyS (code := M.2.1) (maxLocals := M.2.2.1) (ret := M.2.2.2) hy ?_ ?_
  · intro args s m h hn
    obtain ⟨meth, c, h1, h2, h3, h4, h5, h6, -, -⟩ := Cond.code_spec hn (atoms_spec (ws := [Cond.code M.1 M.2.1 M.2.2.1 M.2.2.2]) h _ List.mem_cons_self)
    exact ⟨meth, c, h1, h2, h3, h4, h5, h6⟩
  · intro p e s m args below meth c s₁ B hml hv _
    obtain ⟨rfl, hK, hR, hI⟩ := hv
    have hh0 : s₁.heap = s.heap := by rw [B.state]; rfl
    have ht : ∀ x ∈ c.exceptionTable.toList, False := by
      obtain ⟨meth9, c9, h1, h2, -, -, -, -, h7, -⟩ := Cond.code_spec B.named (atoms_spec (ws := [Cond.code M.1 M.2.1 M.2.2.1 M.2.2.2]) B.pre _ List.mem_cons_self)
      cases Option.some.inj (h1.symm.trans B.method)
      cases Option.some.inj (h2.symm.trans (Stand.of_body B).code)
      intro x hx
      rw [Array.isEmpty_iff.mp h7] at hx
      cases hx
    have hl' := lv_entry (av.map aj_v) (n := M.2.2.1) (by rw [aj_sl_wd]; exact hn)
    rw [aj_args_lv] at hl'
    have K := body (p, l, e, (headSpec [Cond.code M.1 M.2.1 M.2.2.1 M.2.2.2] rm).room, s, m, (av.map aj_v).toArray, below, meth, c, (fun t => ∃ o, t.status = .running ∧ Ended t below o ∧ aj_xQ D dA base rm post px (av.map aj_v).toArray s o t), D, dA, base)
      ⟨B.exec, B.bytes, hml, findClass_of_methodNamed B.named, hK, B.notSynchronized, B.returns, hl, rfl, (name_of_methodNamed B.named B.method).1⟩ ⟨rfl, ht⟩ _ s.heap [] hl' hR hI va_S.rf
    have X0 := Stand.of_body B
    have K2 := K s₁ hh0 X0
    have e1 : entryFrame m (av.map aj_v).toArray M.2.2.1 = F0 m 0 (lg_sl (av.map aj_v) ++ List.replicate (M.2.2.1 - (lg_sl (av.map aj_v)).length) Slot.unset).toArray [] := lg_entry_eq ..
    rw [e1]
    obtain ⟨t, a1, o, b1, b2, b3⟩ := K2
    exact ⟨t, o, a1, b1, b2, b3⟩
section
variable {p : Program} {l : Launch} {e : Env} {R : Room} {s : State} {m : MethodId} {args : Array Value} {below : List Frame} {meth : Method} {c : Code} {T : State} {locs : List Loc} {cells slots : Nat}
/-- the frame that runs, as if its method were called in the heap as it is now -/
theorem aj_anew (X : Stand p l e R s m args below meth c T locs cells slots) {R' : Room} (hf : R'.frames ≤ R.frames) (hl : R'.locals ≤ R.locals) (hc : cells + R'.cells ≤ R.cells) (hs : slots + R'.slots ≤ R.slots) :
    Stand p l e R' ((T.setVm s.vm).setFrames (.invoking m args :: below)) m args below meth c T [] 0 0 := by
  have htop : (T.setVm s.vm).topJava?.isSome := X.here.top
  have hF : ((T.setVm s.vm).setFrames (.invoking m args :: below)).frames = .invoking m args :: below := State.frames_setFrames _ (State.cur_lt_of_top htop)
  have hlim : e.platform.stackLimits (T.setVm s.vm).me = e.platform.stackLimits s.me := X.limits
  have hbyt : (T.setVm s.vm).me.stackBytes = s.me.stackBytes := X.bytes
  have hnil : T.heap.toList.drop T.heap.size = [] := List.drop_eq_nil_of_le (Nat.le_of_eq Array.length_toList)
  have hroom : ((T.setVm s.vm).setFrames (.invoking m args :: below)).hasRoom e.platform R' = true := by
    have hU : ((T.setVm s.vm).setFrames (.invoking m args :: below)).localsInUse = s.localsInUse := by
      rw [State.localsInUse_invoking hF (meth := meth) (c := c) X.method X.code, State.localsInUse_invoking X.frames X.method X.code]
    have h := X.room
    have q1 := X.heapSize
    have q2 := X.used
    simp only [State.hasRoom, Bool.and_eq_true, decide_eq_true_eq] at h ⊢
    obtain ⟨⟨⟨⟨h1, h2, h3, h4, h5, h6⟩, h7⟩, h8⟩, h9⟩ := h
    rw [X.frames, List.length_cons] at h2 h3
    simp only [hF, hU, List.length_cons, State.stackLimits_setFrames, State.stackBytes_setFrames, hlim, hbyt]
    have g7 : T.heap.size + R'.cells ≤ e.platform.maxCells := by omega
    have g8 : T.slotsUsed + R'.slots ≤ e.platform.maxSlots := by omega
    exact ⟨⟨⟨⟨by omega, by omega, by omega, by omega, by omega, h6⟩, g7⟩, g8⟩, X.book⟩
  have hsame : ((T.setVm s.vm).setFrames (.invoking m args :: below)).sameButNew (T.setVm s.vm) [] 0 0 := by
    obtain ⟨g0, hg0⟩ := Option.isSome_iff_exists.mp htop
    obtain ⟨r, hr⟩ := State.topJava?_eq_some.mp hg0
    obtain ⟨t, ht, -⟩ := State.frames_cons hr
    refine ⟨?_, Nat.le_refl _, Nat.le_refl _, ?_, ?_, fun a c9 h9 => ⟨c9, h9, rfl, rfl, fun _ _ => rfl⟩⟩
    · show T.setVm s.vm = { ((T.setVm s.vm).setFrames (.invoking m args :: below)).setFrames (T.setVm s.vm).frames with heap := T.heap, slotsUsed := T.slotsUsed }
      rw [State.setFrames_setFrames, State.setFrames_self ht]
      rfl
    · show T.slotsUsed = T.slotsUsed + ((T.heap.toList.drop T.heap.size).map (·.slots.size)).sum
      rw [hnil]
      rfl
    · show ((T.heap.toList.drop T.heap.size).map (·.slots.size)).sum ≤ 0
      rw [hnil]
      exact Nat.le_refl _
  exact ⟨X.admits, X.cas, X.clock, hF, hroom, X.hears, X.method, X.code, X.here, X.tail, X.warmed, by rw [State.stackLimits_setFrames]; rfl, by rw [State.stackBytes_setFrames]; rfl, hsame⟩
/-- a call of a method with a contract, from the step of the invocation on -/
theorem aj_invoked (X : Stand p l e R s m args below meth c T locs cells slots) {g : JFrame} (hg : g.method = m) (hsize : g.locals.size = c.maxLocals) {ig : Instr} {len : Nat} (hdg : decode c.code g.pc = .ok (ig, len)) {S : Spec} {y : MethodName} {P : Array Value → State → Prop} {Q : Array Value → State → Outcome → State → Prop} (hM : MetFree l y S P (fun _ _ _ _ _ => True) Q)
    {mk : MethodId} {a : Array Value} (hn : T.methodNamed? y = some mk) {methY : Method} {cY : Code} (hmY : T.vm.method? mk = some methY) (hcY : methY.code = some cY) (hini : (Cond.initialized y.cls).before a T = true) (hpre : S.pre.before a T = true) (hframes : S.room.frames + 1 ≤ R.frames) (hlocals : 2 * g.monitorRoom + (g.stack.map fun v => v.category).sum + (cY.maxLocals + 11) + S.room.locals ≤ R.locals) (hc : cells + S.room.cells ≤ R.cells) (hs : slots + S.room.slots ≤ R.slots) (hP : P a (T.calling g mk a)) :
    ∃ o s₂, Steps p.tables e below (doInvoke e (T.setTop g) [] mk a).1 s₂ ∧ Ended s₂ (.java g :: below) o ∧ Q a (T.calling g mk a) o s₂ := by
  obtain ⟨kY, hkY, -⟩ := className_of_methodNamed hn
  have hinitY : kY.init = .initialized := Cond.initialized_spec (findClass_of_methodNamed hn) hkY hini
  have h : At T g.method c below := by rw [hg]; exact X.here
  have happ : S.appliesLoose y e.platform (T.calling g mk a) = true :=
    Spec.appliesLoose_calling (g := g) h hdg hn hkY hinitY (X.room_calling (g := g) (R' := S.room) hsize hmY hcY hframes hlocals hc hs) hpre
  obtain ⟨mid, hmid⟩ := h.above
  have hfr : (T.setTop g).frames = (.java g :: mid) ++ below := by rw [State.frames_setTop' g h.top, hmid]; rfl
  obtain ⟨o, s₂, hsteps, -, hend, hq⟩ := Steps.callFree hM p X.admits X.cas X.clock (acts := []) hfr happ hP trivial
  rw [State.frames_setTop' g h.top, X.tail] at hend
  exact ⟨o, s₂, hsteps, hend, hq⟩
end
/-- an object of the class E is thrown over the frame -/
def aj_X (Γ : aj_G) (nL : Nat) (k : Nat × Nat) (pc : Nat) (lv : List (Nat × aV)) (st : List aV) (w : aw_W) (E : String) : Prop :=
  ∀ (ls : Array Slot) (H : Heap) (locs : List Loc) (q : Addr) (ce : Cell), lv_has ls nL (aj_lv lv) → aw_R (gD Γ) (gA Γ) w H → aw_In (gB Γ) w → va_S (fun q => gB Γ ≤ q) (gs Γ).heap H locs → H[q]? = some ce → ce.vm = .none → (gs Γ).vm.findClass E = some ce.cls →
    ∀ T : State, T.heap = H → Stand (gp Γ) (gl Γ) (ge Γ) (gR Γ) (gs Γ) (gm Γ) (ga Γ) (gb Γ) (gme Γ) (gc Γ) T locs k.1 k.2 → ∃ t, Steps (gp Γ).tables (ge Γ) (gb Γ) ((T.setTop (F0 (gm Γ) pc ls (st.map aj_v))).pushFrame (.throwing q)) t ∧ gQ Γ t
section
variable {Γ : aj_G} {ym : MethodName} {cc : ByteArray} {nL : Nat} {ret : Option FieldType} {rm : Room} {k : Nat × Nat} {pc : Nat} {lv : List (Nat × aV)} {st : List aV} {w w' : aw_W} {r : Option Nat} {ci kf index : Nat} {post : Option aV → aw_W → Prop} {px : String → aw_W → Prop}
theorem j_out {E9 : String} (G : aj_ok Γ ym cc nL ret rm) (F : aj_finX Γ rm post px) (hk : k.1 ≤ rm.cells ∧ k.2 ≤ rm.slots) (hp : px E9 w) : aj_X Γ nL k pc lv st w E9 := by
  intro ls H locs q ce h1 h2 h3 h4 h5 h6 h7 T hT X
  obtain ⟨st1, hrun, hend, hW, hsm⟩ := X.leaveThrown q (g := F0 (gm Γ) pc ls (st.map aj_v)) rfl rfl rfl (fun x hx => (F.2 x hx).elim) G.locks
  refine ⟨_, st1, ?_⟩
  rw [F.1]
  have hh : (T.setFrames (.throwing q :: gb Γ)).heap = H := hT
  exact ⟨.threw q, hrun, hend, Or.inr ⟨q, E9, ce, w, locs, rfl, hp, ⟨by rw [hh]; exact h2, h3, h4.F hh⟩, by rw [hh]; exact h5, h6, h7, hW, hsm.mono hk.1 hk.2, h4.2.2⟩⟩
/-- what comes back of a call: by the two ways -/
theorem aj_behind {M : aj_M} {rmc : Room} {pn : Option aV → aw_W → Prop} {pq : String → aw_W → Prop} {T1 : State} {H : Heap} {locs : List Loc} {ls : Array Slot} {mk : MethodId} {a : Array Value} {o : Outcome} {s₂ : State} {ig : Instr}
    (h1 : lv_has ls nL (aj_lv lv)) (h4 : va_S (fun q => gB Γ ≤ q) (gs Γ).heap H locs) (hT : T1.heap = H) (X : Stand (gp Γ) (gl Γ) (ge Γ) (gR Γ) (gs Γ) (gm Γ) (ga Γ) (gb Γ) (gme Γ) (gc Γ) T1 locs k.1 k.2)
    (hdg : decode (gc Γ).code pc = .ok (ig, 3)) (hend : Ended s₂ (.java (F0 (gm Γ) pc ls (st.map aj_v)) :: gb Γ) o) (hq : aj_xQ (gD Γ) (gA Γ) (gB Γ) rmc pn pq a (T1.calling (F0 (gm Γ) pc ls (st.map aj_v)) mk a) o s₂)
    (kn : ∀ v w', pn v w' → aj_J Γ nL (k.1 + rmc.cells, k.2 + rmc.slots) (pc + 3) lv (v.toList ++ st) w') (kx : ∀ E w', pq E w' → aj_X Γ nL (k.1 + rmc.cells, k.2 + rmc.slots) pc lv st w' E) :
    ∃ t, Steps (gp Γ).tables (ge Γ) (gb Γ) s₂ t ∧ gQ Γ t := by
  have grow : ∀ (H1 : Heap) (L : List Loc), H.size ≤ H1.size → (∀ q : Nat, q < H.size → ¬ gB Γ ≤ q → H1[q]? = H[q]?) → (∀ q ∈ L, gB Γ ≤ q.base) → va_S (fun q => gB Γ ≤ q) (gs Γ).heap H1 (locs ++ L) := by
    intro H1 L hz hk hL
    exact ⟨Nat.le_trans h4.1 hz, fun q q1 q2 => by rw [hk q (Nat.lt_of_lt_of_le q1 h4.1) q2]; exact h4.2.1 q q1 q2, fun q hq => by
      rcases List.mem_append.mp hq with h | h
      · exact h4.2.2 q h
      · exact hL q h⟩
  rcases hq with ⟨⟨v, w', rfl, hp, hR', hI', hF⟩, L, hfe, hL⟩ | ⟨q, E, ce, w', L, rfl, hp, ⟨hR', hI', hF⟩, hce, hcv, hcl, hW, hsm, hL⟩
  · obtain ⟨-, hW, hsm⟩ := hfe
    obtain ⟨T', X', -, -, ht⟩ := X.outOf (g := F0 (gm Γ) pc ls (st.map aj_v)) rfl hdg hend hW hsm
    have hh : s₂.heap = T'.heap := by rw [ht]; rfl
    obtain ⟨hz, hk⟩ := hF
    have hz' : H.size ≤ s₂.heap.size := by rw [← hT]; exact hz
    have hk' : ∀ q : Nat, q < H.size → ¬ gB Γ ≤ q → s₂.heap[q]? = H[q]? := fun q q1 q2 => by
      have := hk q (show q < T1.heap.size by rw [hT]; exact q1) q2
      rw [this]
      show T1.heap[q]? = H[q]?
      rw [hT]
    rw [hh] at hz' hk' hR'
    obtain ⟨t2, a1, b1⟩ := kn v w' hp ls T'.heap (locs ++ L) h1 hR' hI' (grow _ L hz' hk' hL) T' rfl X'
    rw [List.map_append, show (v.toList).map aj_v = (v.map aj_v).toList by cases v <;> rfl] at a1
    rw [ht]
    exact ⟨t2, a1, b1⟩
  · obtain ⟨T', X', -, -, ht⟩ := X.outOfThrown (g := F0 (gm Γ) pc ls (st.map aj_v)) rfl hend hW hsm
    have hh : s₂.heap = T'.heap := by rw [ht]; rfl
    obtain ⟨hz, hk⟩ := hF
    have hz' : H.size ≤ s₂.heap.size := by rw [← hT]; exact hz
    have hk' : ∀ q : Nat, q < H.size → ¬ gB Γ ≤ q → s₂.heap[q]? = H[q]? := fun q q1 q2 => by
      have := hk q (show q < T1.heap.size by rw [hT]; exact q1) q2
      rw [this]
      show T1.heap[q]? = H[q]?
      rw [hT]
    rw [hh] at hz' hk' hR' hce
    have hcl' : (gs Γ).vm.findClass E = some ce.cls := by
      have h9 : T1.vm.findClass E = some ce.cls := hcl
      rw [X.warmed.alike.findClass] at h9
      exact h9
    obtain ⟨t2, a1, b1⟩ := kx E w' hp ls T'.heap (locs ++ L) q ce h1 hR' hI' (grow _ L hz' hk' hL) hce hcv hcl' T' rfl X'
    rw [ht]
    exact ⟨t2, a1, b1⟩
end
end
section
/-! ===== calls of methods that may throw; the throw itself ===== -/
section
variable {Γ : aj_G} {ym : MethodName} {cc : ByteArray} {nL : Nat} {ret : Option FieldType} {rm : Room} {k : Nat × Nat} {pc : Nat} {lv : List (Nat × aV)} {st : List aV} {w w' : aw_W} {r : Option Nat} {ci kf index : Nat} {post : Option aV → aw_W → Prop} {px : String → aw_W → Prop}
/-- the step behind the invocation, for a method without handlers -/
theorem aj_come {M : aj_M} {rmc : Room} {As : List aV} {n : Nat} {pn : Option aV → aw_W → Prop} {pq : String → aw_W → Prop} {T : State} {vm1 : Vm} {H : Heap} {locs : List Loc} {ls : Array Slot} {mk : MethodId} {ig : Instr} (G : aj_ok Γ ym cc nL ret rm) (hM : aj_Cx (gl Γ) (gD Γ) (gA Γ) (gB Γ) M rmc As w pn pq) (hw : aw_Mw M n)
    (d : decode cc pc = .ok (ig, 3)) (hW : aj_wd st ≤ 8) (hf : rmc.frames + 1 ≤ rm.frames ∧ 8 + (M.2.2.1 + 11) + rmc.locals ≤ rm.locals) (hcs : k.1 + rmc.cells ≤ rm.cells ∧ k.2 + rmc.slots ≤ rm.slots)
    (h1 : lv_has ls nL (aj_lv lv)) (h2 : aw_R (gD Γ) (gA Γ) w H) (h3 : aw_In (gB Γ) w) (h4 : va_S (fun q => gB Γ ≤ q) (gs Γ).heap H locs) (hT : T.heap = H) (hnamed : (gs Γ).methodNamed? M.1 = some mk)
    (X₁ : Stand (gp Γ) (gl Γ) (ge Γ) (gR Γ) (gs Γ) (gm Γ) (ga Γ) (gb Γ) (gme Γ) (gc Γ) (T.setVm vm1) locs k.1 k.2)
    (kn : ∀ v w', pn v w' → aj_J Γ nL (k.1 + rmc.cells, k.2 + rmc.slots) (pc + 3) lv (v.toList ++ st) w') (kx : ∀ E w', pq E w' → aj_X Γ nL (k.1 + rmc.cells, k.2 + rmc.slots) pc lv st w' E) :
    ∃ t, Steps (gp Γ).tables (ge Γ) (gb Γ) (doInvoke (ge Γ) ((T.setVm vm1).setTop (F0 (gm Γ) pc ls (st.map aj_v))) [] mk (As.map aj_v).toArray).1 t ∧ gQ Γ t := by
  have hn1 := X₁.named hnamed
  have hcodeT : (Cond.code M.1 M.2.1 M.2.2.1 M.2.2.2).before (As.map aj_v).toArray (T.setVm vm1) = true := aw_at (aw_ws_ok hw.1) X₁.warmed (G.K.2.1 _ hw.1)
  obtain ⟨methY, cY, hmY, hcY, -, hlY, -, -, -, -⟩ := Cond.code_spec hn1 hcodeT
  have hdg : decode (gc Γ).code pc = .ok (ig, 3) := by rw [G.2.1]; exact d
  have hpre : (headSpec [Cond.code M.1 M.2.1 M.2.2.1 M.2.2.2] rmc).pre.before (As.map aj_v).toArray (T.setVm vm1) = true := atoms_intro fun w hw9 => G.words hw.1 w hw9 _ _ X₁.warmed
  obtain ⟨o, s₂, hsteps, hend, hq⟩ := aj_invoked X₁ (g := F0 (gm Γ) pc ls (st.map aj_v)) rfl (h1.1.trans G.maxL.symm) hdg hM hn1 hmY hcY (aw_at (aw_ws_ok hw.2.1) X₁.warmed (G.K.2.1 _ hw.2.1)) hpre (by rw [G.room]; exact hf.1)
    (by
      rw [G.room, hlY]
      show 2 * 0 + ((st.map aj_v).map fun v => v.category).sum + (M.2.2.1 + 11) + rmc.locals ≤ rm.locals
      rw [aj_wd_sum]
      omega) (by rw [G.room]; exact hcs.1) (by rw [G.room]; exact hcs.2) (aj_blind _ _ _ _ ⟨rfl, G.warm h4 (show (T.setVm vm1).heap = H from hT) X₁.warmed, by rw [show (T.setVm vm1).heap = H from hT]; exact h2, h3⟩)
  obtain ⟨t, a1, b1⟩ := aj_behind (M := M) h1 h4 (show (T.setVm vm1).heap = H from hT) X₁ hdg hend hq kn kx
  exact ⟨t, hsteps.trans a1, b1⟩
theorem j_callVx {M : aj_M} {rmc : Room} {n : Nat} {As st0 : List aV} {Tu : u_T} {N : Nat} {q0 : Nat × List Value} {pn : Option aV → aw_W → Prop} {pq : String → aw_W → Prop} (G : aj_ok Γ ym cc nL ret rm) (d : decode cc pc = .ok (.invokevirtual index, 3)) (hM : aj_Cx (gl Γ) (gD Γ) (gA Γ) (gB Γ) M rmc (aRf r :: As) w pn pq)
    (hw : aw_Mw M n) (hi : aw_Mi M) (hL : Cond.methodLink ym.cls index M.1 ∈ aw_ws) (hc : aCl[ci]? = some (M.1.cls, Tu, N)) (ho : aw_obj w r ci = some q0) (hn : As.length = n) (hst : st0 = As.reverse ++ aRf r :: st) (hW : aj_wd st ≤ 8) (hf : rmc.frames + 1 ≤ rm.frames ∧ 8 + (M.2.2.1 + 11) + rmc.locals ≤ rm.locals) (hcs : k.1 + rmc.cells ≤ rm.cells ∧ k.2 + rmc.slots ≤ rm.slots)
    (kn : ∀ v w', pn v w' → aj_J Γ nL (k.1 + rmc.cells, k.2 + rmc.slots) (pc + 3) lv (v.toList ++ st) w') (kx : ∀ E w', pq E w' → aj_X Γ nL (k.1 + rmc.cells, k.2 + rmc.slots) pc lv st w' E) : aj_J Γ nL k pc lv st0 w := by
  intro ls H locs h1 h2 h3 h4 T hT X
  obtain ⟨rfl, ha⟩ := aw_obj_some ho
  obtain ⟨cellB, hcB, hoB, hclB⟩ := va_recv (q0 := 0) (fs := q0.2) G.K.1 (h2.cell ha) hc rfl
  obtain ⟨mk, methM, hnamed, hmethM, hstM, habM⟩ := Cond.instanceMethod_spec (G.word (A := ga Γ) hi.1)
  obtain ⟨methM', cM, hmethM', -, -, -, -, -, -, hsigM⟩ := Cond.code_spec hnamed (G.word (A := ga Γ) hw.1)
  cases hmethM.symm.trans hmethM'
  obtain ⟨c2, r2, m2, q1, q2, q3, q4, kP, hkP, hkPi⟩ := Cond.selects_spec (G.word (A := ga Γ) hi.2)
  cases hclB.symm.trans q1
  cases (State.methodFound?_of_named hnamed hw.2.2.1).symm.trans q2
  cases hnamed.symm.trans q3
  have hselP : selectMethod (ge Γ).platform (gs Γ).vm cellB.cls mk = .method mk := by rw [Launch.admits_selectMethod X.admits]; exact q4
  obtain ⟨vm₁, X₁, hstep₁⟩ := X.invokevirtual G.1 G.own (G.word hL) hnamed hmethM hstM hkP hkPi hw.2.2.1 (a := q0.1) (cell := cellB) (by rw [hT]; exact hcB)
    (fun z h => by rw [h] at hoB; cases hoB) hselP hmethM habM hkP hkPi (g := F0 (gm Γ) pc ls (st0.map aj_v)) rfl (argsL := As.map aj_v) (rest := st.map aj_v) (by rw [List.length_map, hn]; exact hw.len _ hsigM) (by rw [hst]; simp [aj_v, va_rf]) (by rw [G.2.1]; exact d)
  obtain ⟨t, a1, b1⟩ := aj_come (As := aRf (some q0.1) :: As) G hM hw d hW hf hcs h1 h2 h3 h4 hT hnamed X₁ kn kx
  exact ⟨t, hstep₁ _ (fun acts => by rw [doInvoke_state]; exact a1), b1⟩
theorem j_callSx {M : aj_M} {rmc : Room} {n : Nat} {As st0 : List aV} {pn : Option aV → aw_W → Prop} {pq : String → aw_W → Prop} (G : aj_ok Γ ym cc nL ret rm) (d : decode cc pc = .ok (.invokestatic index, 3)) (hM : aj_Cx (gl Γ) (gD Γ) (gA Γ) (gB Γ) M rmc As w pn pq)
    (hw : aw_Mw M n) (hi : Cond.static M.1 ∈ aw_ws) (hL : Cond.methodLink ym.cls index M.1 ∈ aw_ws) (hn : As.length = n) (hst : st0 = As.reverse ++ st) (hW : aj_wd st ≤ 8) (hf : rmc.frames + 1 ≤ rm.frames ∧ 8 + (M.2.2.1 + 11) + rmc.locals ≤ rm.locals) (hcs : k.1 + rmc.cells ≤ rm.cells ∧ k.2 + rmc.slots ≤ rm.slots)
    (kn : ∀ v w', pn v w' → aj_J Γ nL (k.1 + rmc.cells, k.2 + rmc.slots) (pc + 3) lv (v.toList ++ st) w') (kx : ∀ E w', pq E w' → aj_X Γ nL (k.1 + rmc.cells, k.2 + rmc.slots) pc lv st w' E) : aj_J Γ nL k pc lv st0 w := by
  intro ls H locs h1 h2 h3 h4 T hT X
  obtain ⟨mk, hnamed⟩ := Cond.code_named (G.word (A := ga Γ) hw.1)
  obtain ⟨methM, cM, hmethM, -, -, -, -, -, -, hsigM⟩ := Cond.code_spec hnamed (G.word (A := ga Γ) hw.1)
  have hstatic : methM.isStatic = true := Cond.static_spec hnamed hmethM (G.word (A := ga Γ) hi)
  obtain ⟨kP, hkP, -⟩ := className_of_methodNamed hnamed
  have hinitP : kP.init = .initialized := Cond.initialized_spec (findClass_of_methodNamed hnamed) hkP (G.word (A := ga Γ) hw.2.1)
  obtain ⟨vm₁, X₁, hstep₁⟩ := X.invokestatic G.1 G.own (G.word hL) hnamed hmethM hstatic hkP hinitP hw.2.2.1 (g := F0 (gm Γ) pc ls (st0.map aj_v)) rfl (argsL := As.map aj_v) (rest := st.map aj_v) (by rw [List.length_map, hn]; exact hw.len _ hsigM) (by rw [hst]; simp) (by rw [G.2.1]; exact d)
  obtain ⟨t, a1, b1⟩ := aj_come (As := As) G hM hw d hW hf hcs h1 h2 h3 h4 hT hnamed X₁ kn kx
  exact ⟨t, hstep₁ _ (fun acts => by rw [doInvoke_state]; exact a1), b1⟩
/-- 'throw new E("text")' -/
theorem j_throw {cls text : String} {names : List String} {ik is ic : Nat} (G : aj_ok Γ ym cc nL ret rm) (F : aj_finX Γ rm post px) (hcls : Bundle.fit cls = true) (hnames : ∀ n ∈ names, Bundle.fit n = true) (hk : Cond.classLink ym.cls ik cls ∈ aw_ws) (hini : Cond.initialized cls ∈ aw_ws) (hss : (ym.cls, is, text) ∈ aw_ss) (hat : ∀ a ∈ Bundle.ownAtoms ym.cls ic cls names, a ∈ aw_hw ∨ a ∈ aw_ws)
    (d0 : decode cc pc = .ok (.new ik, 3)) (d3 : decode cc (pc + 3) = .ok (.dup, 1)) (d4 : decode cc (pc + 4) = .ok (.ldc is, 2)) (d6 : decode cc (pc + 6) = .ok (.invokespecial ic, 3)) (d9 : decode cc (pc + 9) = .ok (.athrow, 1))
    (hRf : names.length + 3 < rm.frames ∧ aj_wd st + (13 * (names.length + 1) + 43) ≤ rm.locals) (hcs : k.1 + 1 ≤ rm.cells ∧ k.2 + 6 ≤ rm.slots) (hp : px cls (none, w.2)) : aj_J Γ nL k pc lv st w := by
  intro ls H locs h1 h2 h3 h4 T hT X
  have htr : (ge Γ).platform.stackTraces = false := (show (ge Γ).platform.stackTraces = (gl Γ).stackTraces by rw [X.admits.platform]).trans G.off
  have hcs' : k.1 + 1 ≤ (gR Γ).cells ∧ k.2 + 6 ≤ (gR Γ).slots := by rw [G.room]; exact hcs
  have Y := aj_anew X (R' := { frames := (gR Γ).frames, locals := (gR Γ).locals, cells := 1, slots := 6 }) (Nat.le_refl _) (Nat.le_refl _) hcs'.1 hcs'.2
  obtain ⟨s', hs'⟩ : ∃ z, z = (T.setVm (gs Γ).vm).setFrames (.invoking (gm Γ) (ga Γ) :: gb Γ) := ⟨_, rfl⟩
  rw [← hs'] at Y
  have hvm : s'.vm = (gs Γ).vm := by rw [hs']; rfl
  have hhp : s'.heap = H := by rw [hs']; exact hT
  have hK' : aw_K (gD Γ) (gA Γ) (gB Γ) s' := G.warm h4 hhp (by rw [hvm]; exact State.WarmedH.refl (gs Γ))
  have hown' : s'.vm.findClass ym.cls = some (gm Γ).cls := by rw [hvm]; exact G.own
  have hw9 : ∀ a ∈ Bundle.ownAtoms ym.cls ic cls names, a.before (ga Γ) s' = true := fun a ha => hK'.words (hat a ha)
  have hins : (Cond.instantiable cls 6).before (ga Γ) s' = true := hw9 _ (by simp [Bundle.ownAtoms])
  obtain ⟨sa, hstr⟩ := hK'.2.2.1 _ hss
  have e0 : decode (gc Γ).code pc = .ok (.new ik, 3) := by rw [G.2.1]; exact d0
  have e3 : decode (gc Γ).code (pc + 3) = .ok (.dup, 1) := by rw [G.2.1]; exact d3
  have e4 : decode (gc Γ).code (pc + 4) = .ok (.ldc is, 2) := by rw [G.2.1]; exact d4
  have e6 : decode (gc Γ).code (pc + 6) = .ok (.invokespecial ic, 3) := by rw [G.2.1]; exact d6
  have e9 : decode (gc Γ).code (pc + 9) = .ok (.athrow, 1) := by rw [G.2.1]; exact d9
  have hsz : ls.size = (gc Γ).maxLocals := h1.1.trans G.maxL.symm
  obtain ⟨vm₁, cX, kX, hfX, hkX, -, -, X₁, st1⟩ := Y.newCold G.1 (own := ym.cls) (C := cls) (index := ik) (n := 6) hown' (hK'.words (Or.inr hk)) hins (hK'.words (Or.inr hini)) (g := F0 (gm Γ) pc ls (st.map aj_v)) rfl e0 (Nat.le_refl _) (Nat.le_refl _)
  generalize hT1 : (T.setVm vm₁).pushCell { cls := cX, slots := kX.instanceTypes.map defaultValue, vm := .none } = T1 at X₁ st1
  have hcat : (Value.ref T.heap.size).category = 1 := rfl
  have hcellA : T1.heap[T.heap.size]? = some (freshCell cX kX) := by rw [← hT1]; exact State.heap_pushCell_size _ _
  have hl43 : 2 * 0 + ((Value.ref T.heap.size :: st.map aj_v).map fun v => v.category).sum + (13 * (names.length + 1) + 42) ≤ (gR Γ).locals := by
    simp only [List.map_cons, List.sum_cons, hcat, aj_wd_sum]
    rw [G.room]
    omega
  obtain ⟨U, hsteps, hrun, hend, hW, hsame, ce, hce, hO⟩ := X₁.ctorThrowS G.1 htr (own := ym.cls) (cls := cls) (names := names) (ic := ic) hown' hcls hnames hw9 (fun x hx => nomatch hx) hfX hkX hcellA (by rw [hhp, hT]; exact Nat.le_refl _) (msg := .ref sa) rfl
    (g := { method := gm Γ, pc := pc + 6, locals := ls, stack := .ref sa :: .ref T.heap.size :: .ref T.heap.size :: st.map aj_v, locked := none }) rfl hsz rfl rfl (rest := st.map aj_v) rfl e6 e9 (fun x hx => (F.2 x hx).elim) (by rw [G.room]; exact hRf.1) hl43 G.locks
  obtain ⟨-, f1, -, -, -, f6⟩ := id hsame
  rw [hhp] at f1
  have f2 : ∀ q : Nat, q < H.size → U.heap[q]? = H[q]? := by
    intro q hq
    have hq' : q < s'.heap.size := by rw [hhp]; exact hq
    obtain ⟨c9, g1, g2, g3, g4⟩ := f6 q _ (Array.getElem?_eq_getElem hq')
    have hsl : c9.slots = (s'.heap[q]).slots := Array.ext_getElem? fun i => g4 i fun hm => nomatch hm
    have h9 : c9 = s'.heap[q] := by
      rw [hsl] at g2
      exact g2
    have g5 : U.heap[q]? = some c9 := g1
    rw [g5, h9, ← Array.getElem?_eq_getElem hq', hhp]
  have hWs : (gs Γ).WarmedH U.vm := State.WarmedH.trans (t := s') (by rw [hvm]; exact State.WarmedH.refl (gs Γ)) hW
  have hcl : (gs Γ).vm.findClass cls = some ce.cls := by
    have h9 := hO.cls
    rw [hvm] at h9
    exact h9
  have hall : (gs Γ).sameButNew ({ U with vm := (gs Γ).vm } : State) locs rm.cells rm.slots := by
    subst hs'
    obtain ⟨g1, g2⟩ := hsame
    rw [State.setFrames_setFrames] at g1
    have g3 : (T.setVm (gs Γ).vm).sameButNew ({ U with vm := (gs Γ).vm } : State) [] (0 + 1) (0 + 6) := ⟨g1, g2⟩
    have g4 := X.same.trans g3
    rw [List.append_nil] at g4
    exact g4.mono hcs.1 hcs.2
  have hF : va_F (fun q => gB Γ ≤ q) (gs Γ) U := ⟨Nat.le_trans h4.1 f1, fun q q1 q2 => (f2 q (Nat.lt_of_lt_of_le q1 h4.1)).trans (h4.2.1 q q1 q2)⟩
  refine ⟨U, st1 _ ?_, ?_⟩
  · show Steps (gp Γ).tables (ge Γ) (gb Γ) (T1.setTop { method := gm Γ, pc := pc + 3, locals := ls, stack := .ref T.heap.size :: st.map aj_v, locked := none }) _
    jvm_step X₁.here [X₁.here.top, G.1, e3, Value.category]
    exact X₁.ldcString G.1 (own := ym.cls) (text := text) (index := is) (a := sa) hown' hstr.1 hstr.2
      (g := { method := gm Γ, pc := pc + 4, locals := ls, stack := .ref T.heap.size :: .ref T.heap.size :: st.map aj_v, locked := none }) rfl e4 _ hsteps
  · rw [F.1]
    exact ⟨.threw T.heap.size, hrun, hend, Or.inr ⟨T.heap.size, cls, ce, (none, w.2), locs, rfl, hp, ⟨h2.kept f2, h3, hF⟩, hce, hO.vm, hcl, hWs, hall, h4.2.2⟩⟩
end
end
