def aj_nse : ByteArray := ⟨#[0x2a, 0x2b, 0xb7, 0x00, 0x0d, 0xb1]⟩
theorem ta_A_65 : ∀ a ∈ aj_atoms aR_A 65 "java/util/NoSuchElementException" "java/lang/RuntimeException" 13 aj_nse ["java/lang/Exception"], a ∈ aw_hw ∨ a ∈ aw_ws := by decide +kernel
theorem ta_A_78 : ∀ a ∈ aj_atoms aR_A 78 "java/lang/UnsupportedOperationException" "java/lang/RuntimeException" 7 Bundle.six ["java/lang/Exception"], a ∈ aw_hw ∨ a ∈ aw_ws := by decide +kernel
theorem ta_A_150 : ∀ a ∈ aj_atoms aR_A 150 "java/lang/IllegalStateException" "java/lang/RuntimeException" 7 Bundle.six ["java/lang/Exception"], a ∈ aw_hw ∨ a ∈ aw_ws := by decide +kernel
theorem ta_A_170 : ∀ a ∈ aj_atoms aR_A 170 "java/lang/IllegalArgumentException" "java/lang/RuntimeException" 7 Bundle.six ["java/lang/Exception"], a ∈ aw_hw ∨ a ∈ aw_ws := by decide +kernel
noncomputable def f_A_checkRange (w : aw_W) (p1 : Int32) (p2 : Int32) (p3 : Int32) : Option ((Unit ⊕ String) × aw_W) :=
  if p1 < p2 then
    some (.inr "java/lang/IllegalArgumentException", (none, w.2))
  else
    if p1 ≤ p3 then
      some (.inl (), w)
    else
      some (.inr "java/lang/IllegalArgumentException", (none, w.2))
abbrev rm_A_checkRange : Room := { frames := 6, cells := 1, slots := 6, locals := 82 }
set_option maxRecDepth 100000 in
set_option maxHeartbeats 4000000 in
theorem cx_A_checkRange (l : Launch) (hl : l.stackTraces = false) (D : va_G) (dA : Nat → ClassId) (base : Nat) (w : aw_W) (p1 : Int32) (p2 : Int32) (p3 : Int32) (r : (Unit ⊕ String) × aw_W) (hm : f_A_checkRange w p1 p2 p3 = some r) : aj_Cx l D dA base m_A_checkRange rm_A_checkRange [aI p1, aI p2, aI p3] w (fun v w' => ∃ x, r.1 = .inl x ∧ none = v ∧ r.2 = w') (fun E w' => r.1 = .inr E ∧ r.2 = w') := by
  refine aj_enterX hl (by decide) (Nat.le_of_ble_eq_true rfl) ?_
  intro Γ G F
  unfold f_A_checkRange at hm
  refine j_iload_n G d_A_checkRange_0 rfl ?_
  refine j_iload_n G d_A_checkRange_1 rfl ?_
  refine j_icmp_lt (tgt := 10) G d_A_checkRange_2 rfl (fun hc => ?_) (fun hc => ?_)
  · rw [if_pos hc] at hm
    obtain rfl := Option.some.inj hm
    exact j_throw (cls := "java/lang/IllegalArgumentException") (text := "a number is outside its range") (Y := "java/lang/RuntimeException") (names := ["java/lang/Exception"]) (ix := 7) (bs := Bundle.six) G F (by decide +kernel) (by decide +kernel) (by decide +kernel) (by decide +kernel) (by decide +kernel) (by decide +kernel) (by decide +kernel) wd_2_85 wd_1_12 (by decide) ta_A_170 d_A_checkRange_10 d_A_checkRange_13 d_A_checkRange_14 d_A_checkRange_16 d_A_checkRange_19 ⟨by decide, Nat.le_of_ble_eq_true rfl⟩ ⟨by decide, by decide⟩ ⟨rfl, rfl⟩
  · rw [if_neg hc] at hm
    refine j_iload_n G d_A_checkRange_5 rfl ?_
    refine j_iload_n G d_A_checkRange_6 rfl ?_
    refine j_icmp_le (tgt := 20) G d_A_checkRange_7 rfl (fun hc => ?_) (fun hc => ?_)
    · rw [if_pos hc] at hm
      obtain rfl := Option.some.inj hm
      exact j_vret G F.fin d_A_checkRange_20 ⟨by decide, by decide⟩ ⟨_, rfl, rfl, rfl⟩
    · rw [if_neg hc] at hm
      obtain rfl := Option.some.inj hm
      exact j_throw (cls := "java/lang/IllegalArgumentException") (text := "a number is outside its range") (Y := "java/lang/RuntimeException") (names := ["java/lang/Exception"]) (ix := 7) (bs := Bundle.six) G F (by decide +kernel) (by decide +kernel) (by decide +kernel) (by decide +kernel) (by decide +kernel) (by decide +kernel) (by decide +kernel) wd_2_85 wd_1_12 (by decide) ta_A_170 d_A_checkRange_10 d_A_checkRange_13 d_A_checkRange_14 d_A_checkRange_16 d_A_checkRange_19 ⟨by decide, Nat.le_of_ble_eq_true rfl⟩ ⟨by decide, by decide⟩ ⟨rfl, rfl⟩
noncomputable def f_A_checkOpen (w : aw_W) (o : Option Nat) : Option ((Unit ⊕ String) × aw_W) :=
  (aw_gI w o 0 4).bind fun v1 =>
  if v1 = 0 then
    some (.inl (), w)
  else
    some (.inr "java/lang/IllegalStateException", (none, w.2))
abbrev rm_A_checkOpen : Room := { frames := 6, cells := 1, slots := 6, locals := 82 }
set_option maxRecDepth 100000 in
set_option maxHeartbeats 4000000 in
theorem cx_A_checkOpen (l : Launch) (hl : l.stackTraces = false) (D : va_G) (dA : Nat → ClassId) (base : Nat) (w : aw_W) (o : Option Nat) (r : (Unit ⊕ String) × aw_W) (hm : f_A_checkOpen w o = some r) : aj_Cx l D dA base m_A_checkOpen rm_A_checkOpen [aRf o] w (fun v w' => ∃ x, r.1 = .inl x ∧ none = v ∧ r.2 = w') (fun E w' => r.1 = .inr E ∧ r.2 = w') := by
  refine aj_enterX hl (by decide) (Nat.le_of_ble_eq_true rfl) ?_
  intro Γ G F
  unfold f_A_checkOpen at hm
  refine j_aload_n G d_A_checkOpen_0 rfl ?_
  obtain ⟨v1, hv1, hm⟩ := Option.bind_eq_some_iff.mp hm
  refine j_gI G d_A_checkOpen_1 fl_A_34 hv1 ?_
  refine j_if_eq (tgt := 17) G d_A_checkOpen_4 rfl (fun hc => ?_) (fun hc => ?_)
  · rw [if_pos hc] at hm
    obtain rfl := Option.some.inj hm
    exact j_vret G F.fin d_A_checkOpen_17 ⟨by decide, by decide⟩ ⟨_, rfl, rfl, rfl⟩
  · rw [if_neg hc] at hm
    obtain rfl := Option.some.inj hm
    exact j_throw (cls := "java/lang/IllegalStateException") (text := "the store is closed") (Y := "java/lang/RuntimeException") (names := ["java/lang/Exception"]) (ix := 7) (bs := Bundle.six) G F (by decide +kernel) (by decide +kernel) (by decide +kernel) (by decide +kernel) (by decide +kernel) (by decide +kernel) (by decide +kernel) wd_2_157 wd_1_13 (by decide) ta_A_150 d_A_checkOpen_7 d_A_checkOpen_10 d_A_checkOpen_11 d_A_checkOpen_13 d_A_checkOpen_16 ⟨by decide, Nat.le_of_ble_eq_true rfl⟩ ⟨by decide, by decide⟩ ⟨rfl, rfl⟩
noncomputable def f_A_append (w : aw_W) (o : Option Nat) (p1 : Int64) (p2 : Int64) (p3 : Int32) : Option ((Unit ⊕ String) × aw_W) :=
  (aw_gR w o 0 0).bind fun v1 =>
  (f_K_size w p1).bind fun v2 =>
  (f_Y_recordBytes w v2 p3).bind fun v3 =>
  (aw_obj w v1 5).bind fun v4 =>
  (f_S_withRoomFor w v1 v3).bind fun v5 =>
  if v5.1 = none then
    some (.inr "java/lang/UnsupportedOperationException", (none, v5.2.2))
  else
    (aw_gR v5.2 o 0 1).bind fun v6 =>
    (aw_gI v5.2 o 0 3).bind fun v7 =>
    (aw_obj v5.2 v5.1 6).bind fun v8 =>
    (f_F_append v5.2 v5.1 v7 p1 p2 p3).bind fun v9 =>
    (aw_obj v9.2 v6 1).bind fun v10 =>
    (f_D_enter v9.2 v6 v9.1).bind fun v11 =>
    (aw_gI v11 o 0 3).bind fun v12 =>
    (aw_pV v11 o 0 3 (.int ((v12 + (1 : Int32)) &&& (65535 : Int32)))).bind fun v13 =>
    some (.inl (), v13)
abbrev rm_A_append : Room := { frames := 6, cells := 1, slots := 6, locals := 101 }
set_option maxRecDepth 100000 in
set_option maxHeartbeats 4000000 in
theorem cx_A_append (l : Launch) (hl : l.stackTraces = false) (D : va_G) (dA : Nat → ClassId) (base : Nat) (w : aw_W) (o : Option Nat) (p1 : Int64) (p2 : Int64) (p3 : Int32) (r : (Unit ⊕ String) × aw_W) (hm : f_A_append w o p1 p2 p3 = some r) : aj_Cx l D dA base m_A_append rm_A_append [aRf o, aL p1, aL p2, aI p3] w (fun v w' => ∃ x, r.1 = .inl x ∧ none = v ∧ r.2 = w') (fun E w' => r.1 = .inr E ∧ r.2 = w') := by
  refine aj_enterX hl (by decide) (Nat.le_of_ble_eq_true rfl) ?_
  intro Γ G F
  unfold f_A_append at hm
  refine j_aload_n G d_A_append_0 rfl ?_
  obtain ⟨v1, hv1, hm⟩ := Option.bind_eq_some_iff.mp hm
  refine j_gR G d_A_append_1 fl_A_10 hv1 ?_
  refine j_lload_n G d_A_append_4 rfl ?_
  obtain ⟨v2, hv2, hm⟩ := Option.bind_eq_some_iff.mp hm
  refine j_callS (As := [aL p1]) G d_A_append_5 (c_K_size _ G.off _ _ _ _ _ _ hv2) mw_K_size ms_K_size lk_A_96 rfl rfl (Nat.le_of_ble_eq_true rfl) ⟨by decide, by decide⟩ ⟨by decide, by decide⟩ (fun v9 w9 hp => ?_)
  obtain ⟨rfl, rfl⟩ := hp
  refine j_iload G d_A_append_8 rfl ?_
  obtain ⟨v3, hv3, hm⟩ := Option.bind_eq_some_iff.mp hm
  refine j_callS (As := [aI v2, aI p3]) G d_A_append_10 (c_Y_recordBytes _ G.off _ _ _ _ _ _ _ hv3) mw_Y_recordBytes ms_Y_recordBytes lk_A_212 rfl rfl (Nat.le_of_ble_eq_true rfl) ⟨by decide, by decide⟩ ⟨by decide, by decide⟩ (fun v9 w9 hp => ?_)
  obtain ⟨rfl, rfl⟩ := hp
  obtain ⟨v4, hv4, hm⟩ := Option.bind_eq_some_iff.mp hm
  obtain ⟨v5, hv5, hm⟩ := Option.bind_eq_some_iff.mp hm
  refine j_callV (As := [aI v3]) G d_A_append_13 (c_S_withRoomFor _ G.off _ _ _ _ _ _ _ hv5) mw_S_withRoomFor mi_S_withRoomFor lk_A_216 rfl hv4 rfl rfl (Nat.le_of_ble_eq_true rfl) ⟨by decide, by decide⟩ ⟨by decide, by decide⟩ (fun v9 w9 hp => ?_)
  obtain ⟨rfl, rfl⟩ := hp
  refine j_astore G d_A_append_16 (by decide) ?_
  refine j_aload G d_A_append_18 rfl ?_
  refine j_ifnonnull (tgt := 33) G d_A_append_20 rfl (fun hc => ?_) (fun hc => ?_)
  · rw [if_neg hc] at hm
    refine j_aload_n G d_A_append_33 rfl ?_
    obtain ⟨v6, hv6, hm⟩ := Option.bind_eq_some_iff.mp hm
    refine j_gR G d_A_append_34 fl_A_19 hv6 ?_
    refine j_aload G d_A_append_37 rfl ?_
    refine j_aload_n G d_A_append_39 rfl ?_
    obtain ⟨v7, hv7, hm⟩ := Option.bind_eq_some_iff.mp hm
    refine j_gI G d_A_append_40 fl_A_30 hv7 ?_
    refine j_lload_n G d_A_append_43 rfl ?_
    refine j_lload_n G d_A_append_44 rfl ?_
    refine j_iload G d_A_append_45 rfl ?_
    obtain ⟨v8, hv8, hm⟩ := Option.bind_eq_some_iff.mp hm
    obtain ⟨v9, hv9, hm⟩ := Option.bind_eq_some_iff.mp hm
    refine j_callV (As := [aI v7, aL p1, aL p2, aI p3]) G d_A_append_47 (c_F_append _ G.off _ _ _ _ _ _ _ _ _ _ hv9) mw_F_append mi_F_append lk_A_221 rfl hv8 rfl rfl (Nat.le_of_ble_eq_true rfl) ⟨by decide, by decide⟩ ⟨by decide, by decide⟩ (fun v9 w9 hp => ?_)
    obtain ⟨rfl, rfl⟩ := hp
    obtain ⟨v10, hv10, hm⟩ := Option.bind_eq_some_iff.mp hm
    obtain ⟨v11, hv11, hm⟩ := Option.bind_eq_some_iff.mp hm
    refine j_callV (As := [aRf v9.1]) G d_A_append_50 (c_D_enter _ G.off _ _ _ _ _ _ _ hv11) mw_D_enter mi_D_enter lk_A_224 rfl hv10 rfl rfl (Nat.le_of_ble_eq_true rfl) ⟨by decide, by decide⟩ ⟨by decide, by decide⟩ (fun v9 w9 hp => ?_)
    obtain ⟨rfl, rfl⟩ := hp
    refine j_aload_n G d_A_append_53 rfl ?_
    refine j_aload_n G d_A_append_54 rfl ?_
    obtain ⟨v12, hv12, hm⟩ := Option.bind_eq_some_iff.mp hm
    refine j_gI G d_A_append_55 fl_A_30 hv12 ?_
    refine j_iconst (v := 1) G d_A_append_58 (by decide) ?_
    refine j_iadd G d_A_append_59 ?_
    refine j_ldc G d_A_append_60 wd_3_7 ?_
    refine j_iand G d_A_append_62 ?_
    obtain ⟨v13, hv13, hm⟩ := Option.bind_eq_some_iff.mp hm
    refine j_pV (ty := aY_A 3) G d_A_append_63 fl_A_30 ac_A (aw_T_of_A 3 (by decide) rfl) rfl rfl hv13 ?_
    obtain rfl := Option.some.inj hm
    exact j_vret G F.fin d_A_append_66 ⟨by decide, by decide⟩ ⟨_, rfl, rfl, rfl⟩
  · rw [if_pos hc] at hm
    obtain rfl := Option.some.inj hm
    exact j_throw (cls := "java/lang/UnsupportedOperationException") (text := "full") (Y := "java/lang/RuntimeException") (names := ["java/lang/Exception"]) (ix := 7) (bs := Bundle.six) G F (by decide +kernel) (by decide +kernel) (by decide +kernel) (by decide +kernel) (by decide +kernel) (by decide +kernel) (by decide +kernel) wd_2_200 wd_1_16 (by decide) ta_A_78 d_A_append_23 d_A_append_26 d_A_append_27 d_A_append_29 d_A_append_32 ⟨by decide, Nat.le_of_ble_eq_true rfl⟩ ⟨by decide, by decide⟩ ⟨rfl, rfl⟩
noncomputable def f_A_put (w : aw_W) (o : Option Nat) (p1 : Int64) (p2 : Int32) (p3 : Int64) (p4 : Int32) : Option ((Unit ⊕ String) × aw_W) :=
  (f_A_checkRange w p2 (1 : Int32) (4 : Int32)).bind fun v1 =>
  match v1.1 with
  | .inl x2 =>
    (f_A_checkRange v1.2 p4 (0 : Int32) (8 : Int32)).bind fun v3 =>
    match v3.1 with
    | .inl x4 =>
      (aw_obj v3.2 o 0).bind fun v5 =>
      (f_A_checkOpen v3.2 o).bind fun v6 =>
      match v6.1 with
      | .inl x7 =>
        (f_K_rank v6.2 p1 p2).bind fun v8 =>
        (aw_obj v6.2 o 0).bind fun v9 =>
        (f_A_append v6.2 o v8 p3 p4).bind fun v10 =>
        match v10.1 with
        | .inl x11 =>
          some (.inl (), v10.2)
        | .inr E9 => some (.inr E9, v10.2)
      | .inr E9 => some (.inr E9, v6.2)
    | .inr E9 => some (.inr E9, v3.2)
  | .inr E9 => some (.inr E9, v1.2)
abbrev rm_A_put : Room := { frames := 7, cells := 4, slots := 24, locals := 127 }
set_option maxRecDepth 100000 in
set_option maxHeartbeats 4000000 in
theorem cx_A_put (l : Launch) (hl : l.stackTraces = false) (D : va_G) (dA : Nat → ClassId) (base : Nat) (w : aw_W) (o : Option Nat) (p1 : Int64) (p2 : Int32) (p3 : Int64) (p4 : Int32) (r : (Unit ⊕ String) × aw_W) (hm : f_A_put w o p1 p2 p3 p4 = some r) : aj_Cx l D dA base m_A_put rm_A_put [aRf o, aL p1, aI p2, aL p3, aI p4] w (fun v w' => ∃ x, r.1 = .inl x ∧ none = v ∧ r.2 = w') (fun E w' => r.1 = .inr E ∧ r.2 = w') := by
  refine aj_enterX hl (by decide) (Nat.le_of_ble_eq_true rfl) ?_
  intro Γ G F
  unfold f_A_put at hm
  refine j_iload_n G d_A_put_0 rfl ?_
  refine j_iconst (v := 1) G d_A_put_1 (by decide) ?_
  refine j_iconst (v := 4) G d_A_put_2 (by decide) ?_
  obtain ⟨v1, hv1, hm⟩ := Option.bind_eq_some_iff.mp hm
  refine j_callSx (As := [aI p2, aI (1 : Int32), aI (4 : Int32)]) G d_A_put_3 (cx_A_checkRange _ G.off _ _ _ _ _ _ _ _ hv1) mw_A_checkRange ms_A_checkRange wd_2_82 rfl rfl (Nat.le_of_ble_eq_true rfl) ⟨by decide, by decide⟩ ⟨by decide, by decide⟩ (fun v9 w9 hp => ?_) (fun E9 w9 hp => ?_)
  · obtain ⟨x2, hx9, rfl, rfl⟩ := hp
    rw [hx9] at hm
    dsimp only at hm
    refine j_iload G d_A_put_6 rfl ?_
    refine j_iconst (v := 0) G d_A_put_8 (by decide) ?_
    refine j_bipush (v := 8) G d_A_put_9 (by decide) ?_
    obtain ⟨v3, hv3, hm⟩ := Option.bind_eq_some_iff.mp hm
    refine j_callSx (As := [aI p4, aI (0 : Int32), aI (8 : Int32)]) G d_A_put_11 (cx_A_checkRange _ G.off _ _ _ _ _ _ _ _ hv3) mw_A_checkRange ms_A_checkRange wd_2_82 rfl rfl (Nat.le_of_ble_eq_true rfl) ⟨by decide, by decide⟩ ⟨by decide, by decide⟩ (fun v9 w9 hp => ?_) (fun E9 w9 hp => ?_)
    · obtain ⟨x4, hx9, rfl, rfl⟩ := hp
      rw [hx9] at hm
      dsimp only at hm
      refine j_aload_n G d_A_put_14 rfl ?_
      obtain ⟨v5, hv5, hm⟩ := Option.bind_eq_some_iff.mp hm
      obtain ⟨v6, hv6, hm⟩ := Option.bind_eq_some_iff.mp hm
      refine j_callVx (As := []) G d_A_put_15 (cx_A_checkOpen _ G.off _ _ _ _ _ _ hv6) mw_A_checkOpen mi_A_checkOpen wd_2_153 rfl hv5 rfl rfl (Nat.le_of_ble_eq_true rfl) ⟨by decide, by decide⟩ ⟨by decide, by decide⟩ (fun v9 w9 hp => ?_) (fun E9 w9 hp => ?_)
      · obtain ⟨x7, hx9, rfl, rfl⟩ := hp
        rw [hx9] at hm
        dsimp only at hm
        refine j_aload_n G d_A_put_18 rfl ?_
        refine j_lload_n G d_A_put_19 rfl ?_
        refine j_iload_n G d_A_put_20 rfl ?_
        obtain ⟨v8, hv8, hm⟩ := Option.bind_eq_some_iff.mp hm
        refine j_callS (As := [aL p1, aI p2]) G d_A_put_21 (c_K_rank _ G.off _ _ _ _ _ _ _ hv8) mw_K_rank ms_K_rank lk_A_47 rfl rfl (Nat.le_of_ble_eq_true rfl) ⟨by decide, by decide⟩ ⟨by decide, by decide⟩ (fun v9 w9 hp => ?_)
        obtain ⟨rfl, rfl⟩ := hp
        refine j_lload G d_A_put_24 rfl ?_
        refine j_iload G d_A_put_26 rfl ?_
        obtain ⟨v9, hv9, hm⟩ := Option.bind_eq_some_iff.mp hm
        obtain ⟨v10, hv10, hm⟩ := Option.bind_eq_some_iff.mp hm
        refine j_callVx (As := [aL v8, aL p3, aI p4]) G d_A_put_28 (cx_A_append _ G.off _ _ _ _ _ _ _ _ _ hv10) mw_A_append mi_A_append wd_2_174 rfl hv9 rfl rfl (Nat.le_of_ble_eq_true rfl) ⟨by decide, by decide⟩ ⟨by decide, by decide⟩ (fun v9 w9 hp => ?_) (fun E9 w9 hp => ?_)
        · obtain ⟨x11, hx9, rfl, rfl⟩ := hp
          rw [hx9] at hm
          dsimp only at hm
          obtain rfl := Option.some.inj hm
          exact j_vret G F.fin d_A_put_31 ⟨by decide, by decide⟩ ⟨_, rfl, rfl, rfl⟩
        · obtain ⟨hx9, rfl⟩ := hp
          rw [hx9] at hm
          dsimp only at hm
          obtain rfl := Option.some.inj hm
          exact j_out G F ⟨by decide, by decide⟩ ⟨rfl, rfl⟩
      · obtain ⟨hx9, rfl⟩ := hp
        rw [hx9] at hm
        dsimp only at hm
        obtain rfl := Option.some.inj hm
        exact j_out G F ⟨by decide, by decide⟩ ⟨rfl, rfl⟩
    · obtain ⟨hx9, rfl⟩ := hp
      rw [hx9] at hm
      dsimp only at hm
      obtain rfl := Option.some.inj hm
      exact j_out G F ⟨by decide, by decide⟩ ⟨rfl, rfl⟩
  · obtain ⟨hx9, rfl⟩ := hp
    rw [hx9] at hm
    dsimp only at hm
    obtain rfl := Option.some.inj hm
    exact j_out G F ⟨by decide, by decide⟩ ⟨rfl, rfl⟩
noncomputable def f_A_delete (w : aw_W) (o : Option Nat) (p1 : Int64) (p2 : Int32) : Option ((Int32 ⊕ String) × aw_W) :=
  (f_A_checkRange w p2 (1 : Int32) (4 : Int32)).bind fun v1 =>
  match v1.1 with
  | .inl x2 =>
    (aw_obj v1.2 o 0).bind fun v3 =>
    (f_A_checkOpen v1.2 o).bind fun v4 =>
    match v4.1 with
    | .inl x5 =>
      (f_K_rank v4.2 p1 p2).bind fun v6 =>
      (aw_gR v4.2 o 0 1).bind fun v7 =>
      (aw_obj v4.2 v7 1).bind fun v8 =>
      (f_D_find v4.2 v7 v6).bind fun v9 =>
      if v9 = none then
        some (.inl (0 : Int32), v4.2)
      else
        (aw_obj v4.2 o 0).bind fun v10 =>
        (f_A_append v4.2 o v6 (0 : Int64) (255 : Int32)).bind fun v11 =>
        match v11.1 with
        | .inl x12 =>
          some (.inl (1 : Int32), v11.2)
        | .inr E9 => some (.inr E9, v11.2)
    | .inr E9 => some (.inr E9, v4.2)
  | .inr E9 => some (.inr E9, v1.2)
abbrev rm_A_delete : Room := { frames := 7, cells := 3, slots := 18, locals := 127 }
set_option maxRecDepth 100000 in
set_option maxHeartbeats 4000000 in
theorem cx_A_delete (l : Launch) (hl : l.stackTraces = false) (D : va_G) (dA : Nat → ClassId) (base : Nat) (w : aw_W) (o : Option Nat) (p1 : Int64) (p2 : Int32) (r : (Int32 ⊕ String) × aw_W) (hm : f_A_delete w o p1 p2 = some r) : aj_Cx l D dA base m_A_delete rm_A_delete [aRf o, aL p1, aI p2] w (fun v w' => ∃ x, r.1 = .inl x ∧ some (aI x) = v ∧ r.2 = w') (fun E w' => r.1 = .inr E ∧ r.2 = w') := by
  refine aj_enterX hl (by decide) (Nat.le_of_ble_eq_true rfl) ?_
  intro Γ G F
  unfold f_A_delete at hm
  refine j_iload_n G d_A_delete_0 rfl ?_
  refine j_iconst (v := 1) G d_A_delete_1 (by decide) ?_
  refine j_iconst (v := 4) G d_A_delete_2 (by decide) ?_
  obtain ⟨v1, hv1, hm⟩ := Option.bind_eq_some_iff.mp hm
  refine j_callSx (As := [aI p2, aI (1 : Int32), aI (4 : Int32)]) G d_A_delete_3 (cx_A_checkRange _ G.off _ _ _ _ _ _ _ _ hv1) mw_A_checkRange ms_A_checkRange wd_2_82 rfl rfl (Nat.le_of_ble_eq_true rfl) ⟨by decide, by decide⟩ ⟨by decide, by decide⟩ (fun v9 w9 hp => ?_) (fun E9 w9 hp => ?_)
  · obtain ⟨x2, hx9, rfl, rfl⟩ := hp
    rw [hx9] at hm
    dsimp only at hm
    refine j_aload_n G d_A_delete_6 rfl ?_
    obtain ⟨v3, hv3, hm⟩ := Option.bind_eq_some_iff.mp hm
    obtain ⟨v4, hv4, hm⟩ := Option.bind_eq_some_iff.mp hm
    refine j_callVx (As := []) G d_A_delete_7 (cx_A_checkOpen _ G.off _ _ _ _ _ _ hv4) mw_A_checkOpen mi_A_checkOpen wd_2_153 rfl hv3 rfl rfl (Nat.le_of_ble_eq_true rfl) ⟨by decide, by decide⟩ ⟨by decide, by decide⟩ (fun v9 w9 hp => ?_) (fun E9 w9 hp => ?_)
    · obtain ⟨x5, hx9, rfl, rfl⟩ := hp
      rw [hx9] at hm
      dsimp only at hm
      refine j_lload_n G d_A_delete_10 rfl ?_
      refine j_iload_n G d_A_delete_11 rfl ?_
      obtain ⟨v6, hv6, hm⟩ := Option.bind_eq_some_iff.mp hm
      refine j_callS (As := [aL p1, aI p2]) G d_A_delete_12 (c_K_rank _ G.off _ _ _ _ _ _ _ hv6) mw_K_rank ms_K_rank lk_A_47 rfl rfl (Nat.le_of_ble_eq_true rfl) ⟨by decide, by decide⟩ ⟨by decide, by decide⟩ (fun v9 w9 hp => ?_)
      obtain ⟨rfl, rfl⟩ := hp
      refine j_lstore G d_A_delete_15 (by decide) ?_
      refine j_aload_n G d_A_delete_17 rfl ?_
      obtain ⟨v7, hv7, hm⟩ := Option.bind_eq_some_iff.mp hm
      refine j_gR G d_A_delete_18 fl_A_19 hv7 ?_
      refine j_lload G d_A_delete_21 rfl ?_
      obtain ⟨v8, hv8, hm⟩ := Option.bind_eq_some_iff.mp hm
      obtain ⟨v9, hv9, hm⟩ := Option.bind_eq_some_iff.mp hm
      refine j_callV (As := [aL v6]) G d_A_delete_23 (c_D_find _ G.off _ _ _ _ _ _ _ hv9) mw_D_find mi_D_find lk_A_57 rfl hv8 rfl rfl (Nat.le_of_ble_eq_true rfl) ⟨by decide, by decide⟩ ⟨by decide, by decide⟩ (fun v9 w9 hp => ?_)
      obtain ⟨rfl, rfl⟩ := hp
      refine j_ifnonnull (tgt := 31) G d_A_delete_26 rfl (fun hc => ?_) (fun hc => ?_)
      · rw [if_neg hc] at hm
        refine j_aload_n G d_A_delete_31 rfl ?_
        refine j_lload G d_A_delete_32 rfl ?_
        refine j_lconst (v := 0) G d_A_delete_34 (by decide) ?_
        refine j_sipush (v := 255) G d_A_delete_35 (by decide) ?_
        obtain ⟨v10, hv10, hm⟩ := Option.bind_eq_some_iff.mp hm
        obtain ⟨v11, hv11, hm⟩ := Option.bind_eq_some_iff.mp hm
        refine j_callVx (As := [aL v6, aL (0 : Int64), aI (255 : Int32)]) G d_A_delete_38 (cx_A_append _ G.off _ _ _ _ _ _ _ _ _ hv11) mw_A_append mi_A_append wd_2_174 rfl hv10 rfl rfl (Nat.le_of_ble_eq_true rfl) ⟨by decide, by decide⟩ ⟨by decide, by decide⟩ (fun v9 w9 hp => ?_) (fun E9 w9 hp => ?_)
        · obtain ⟨x12, hx9, rfl, rfl⟩ := hp
          rw [hx9] at hm
          dsimp only at hm
          refine j_iconst (v := 1) G d_A_delete_41 (by decide) ?_
          obtain rfl := Option.some.inj hm
          exact j_zret G F.fin d_A_delete_42 ⟨by decide, by decide⟩ (by decide) ⟨_, rfl, rfl, rfl⟩
        · obtain ⟨hx9, rfl⟩ := hp
          rw [hx9] at hm
          dsimp only at hm
          obtain rfl := Option.some.inj hm
          exact j_out G F ⟨by decide, by decide⟩ ⟨rfl, rfl⟩
      · rw [if_pos hc] at hm
        refine j_iconst (v := 0) G d_A_delete_29 (by decide) ?_
        obtain rfl := Option.some.inj hm
        exact j_zret G F.fin d_A_delete_30 ⟨by decide, by decide⟩ (by decide) ⟨_, rfl, rfl, rfl⟩
    · obtain ⟨hx9, rfl⟩ := hp
      rw [hx9] at hm
      dsimp only at hm
      obtain rfl := Option.some.inj hm
      exact j_out G F ⟨by decide, by decide⟩ ⟨rfl, rfl⟩
  · obtain ⟨hx9, rfl⟩ := hp
    rw [hx9] at hm
    dsimp only at hm
    obtain rfl := Option.some.inj hm
    exact j_out G F ⟨by decide, by decide⟩ ⟨rfl, rfl⟩
noncomputable def f_A_get (w : aw_W) (o : Option Nat) (p1 : Int64) (p2 : Int32) : Option ((Int64 ⊕ String) × aw_W) :=
  (f_A_checkRange w p2 (1 : Int32) (4 : Int32)).bind fun v1 =>
  match v1.1 with
  | .inl x2 =>
    (aw_obj v1.2 o 0).bind fun v3 =>
    (f_A_checkOpen v1.2 o).bind fun v4 =>
    match v4.1 with
    | .inl x5 =>
      (aw_gR v4.2 o 0 1).bind fun v6 =>
      (f_K_rank v4.2 p1 p2).bind fun v7 =>
      (aw_obj v4.2 v6 1).bind fun v8 =>
      (f_D_find v4.2 v6 v7).bind fun v9 =>
      if v9 = none then
        some (.inr "java/util/NoSuchElementException", (none, v4.2.2))
      else
        (aw_obj v4.2 v9 4).bind fun v10 =>
        (f_R_isBroken v4.2 v9).bind fun v11 =>
        if v11 = 0 then
          (aw_obj v4.2 v9 4).bind fun v12 =>
          (f_R_value v4.2 v9).bind fun v13 =>
          some (.inl v13, v4.2)
        else
          some (.inr "java/lang/UnsupportedOperationException", (none, v4.2.2))
    | .inr E9 => some (.inr E9, v4.2)
  | .inr E9 => some (.inr E9, v1.2)
abbrev rm_A_get : Room := { frames := 7, cells := 3, slots := 18, locals := 104 }
set_option maxRecDepth 100000 in
set_option maxHeartbeats 4000000 in
theorem cx_A_get (l : Launch) (hl : l.stackTraces = false) (D : va_G) (dA : Nat → ClassId) (base : Nat) (w : aw_W) (o : Option Nat) (p1 : Int64) (p2 : Int32) (r : (Int64 ⊕ String) × aw_W) (hm : f_A_get w o p1 p2 = some r) : aj_Cx l D dA base m_A_get rm_A_get [aRf o, aL p1, aI p2] w (fun v w' => ∃ x, r.1 = .inl x ∧ some (aL x) = v ∧ r.2 = w') (fun E w' => r.1 = .inr E ∧ r.2 = w') := by
  refine aj_enterX hl (by decide) (Nat.le_of_ble_eq_true rfl) ?_
  intro Γ G F
  unfold f_A_get at hm
  refine j_iload_n G d_A_get_0 rfl ?_
  refine j_iconst (v := 1) G d_A_get_1 (by decide) ?_
  refine j_iconst (v := 4) G d_A_get_2 (by decide) ?_
  obtain ⟨v1, hv1, hm⟩ := Option.bind_eq_some_iff.mp hm
  refine j_callSx (As := [aI p2, aI (1 : Int32), aI (4 : Int32)]) G d_A_get_3 (cx_A_checkRange _ G.off _ _ _ _ _ _ _ _ hv1) mw_A_checkRange ms_A_checkRange wd_2_82 rfl rfl (Nat.le_of_ble_eq_true rfl) ⟨by decide, by decide⟩ ⟨by decide, by decide⟩ (fun v9 w9 hp => ?_) (fun E9 w9 hp => ?_)
  · obtain ⟨x2, hx9, rfl, rfl⟩ := hp
    rw [hx9] at hm
    dsimp only at hm
    refine j_aload_n G d_A_get_6 rfl ?_
    obtain ⟨v3, hv3, hm⟩ := Option.bind_eq_some_iff.mp hm
    obtain ⟨v4, hv4, hm⟩ := Option.bind_eq_some_iff.mp hm
    refine j_callVx (As := []) G d_A_get_7 (cx_A_checkOpen _ G.off _ _ _ _ _ _ hv4) mw_A_checkOpen mi_A_checkOpen wd_2_153 rfl hv3 rfl rfl (Nat.le_of_ble_eq_true rfl) ⟨by decide, by decide⟩ ⟨by decide, by decide⟩ (fun v9 w9 hp => ?_) (fun E9 w9 hp => ?_)
    · obtain ⟨x5, hx9, rfl, rfl⟩ := hp
      rw [hx9] at hm
      dsimp only at hm
      refine j_aload_n G d_A_get_10 rfl ?_
      obtain ⟨v6, hv6, hm⟩ := Option.bind_eq_some_iff.mp hm
      refine j_gR G d_A_get_11 fl_A_19 hv6 ?_
      refine j_lload_n G d_A_get_14 rfl ?_
      refine j_iload_n G d_A_get_15 rfl ?_
      obtain ⟨v7, hv7, hm⟩ := Option.bind_eq_some_iff.mp hm
      refine j_callS (As := [aL p1, aI p2]) G d_A_get_16 (c_K_rank _ G.off _ _ _ _ _ _ _ hv7) mw_K_rank ms_K_rank lk_A_47 rfl rfl (Nat.le_of_ble_eq_true rfl) ⟨by decide, by decide⟩ ⟨by decide, by decide⟩ (fun v9 w9 hp => ?_)
      obtain ⟨rfl, rfl⟩ := hp
      obtain ⟨v8, hv8, hm⟩ := Option.bind_eq_some_iff.mp hm
      obtain ⟨v9, hv9, hm⟩ := Option.bind_eq_some_iff.mp hm
      refine j_callV (As := [aL v7]) G d_A_get_19 (c_D_find _ G.off _ _ _ _ _ _ _ hv9) mw_D_find mi_D_find lk_A_57 rfl hv8 rfl rfl (Nat.le_of_ble_eq_true rfl) ⟨by decide, by decide⟩ ⟨by decide, by decide⟩ (fun v9 w9 hp => ?_)
      obtain ⟨rfl, rfl⟩ := hp
      refine j_astore G d_A_get_22 (by decide) ?_
      refine j_aload G d_A_get_24 rfl ?_
      refine j_ifnonnull (tgt := 39) G d_A_get_26 rfl (fun hc => ?_) (fun hc => ?_)
      · rw [if_neg hc] at hm
        refine j_aload G d_A_get_39 rfl ?_
        obtain ⟨v10, hv10, hm⟩ := Option.bind_eq_some_iff.mp hm
        obtain ⟨v11, hv11, hm⟩ := Option.bind_eq_some_iff.mp hm
        refine j_callV (As := []) G d_A_get_41 (c_R_isBroken _ G.off _ _ _ _ _ _ hv11) mw_R_isBroken mi_R_isBroken lk_A_68 rfl hv10 rfl rfl (Nat.le_of_ble_eq_true rfl) ⟨by decide, by decide⟩ ⟨by decide, by decide⟩ (fun v9 w9 hp => ?_)
        obtain ⟨rfl, rfl⟩ := hp
        refine j_if_eq (tgt := 57) G d_A_get_44 rfl (fun hc => ?_) (fun hc => ?_)
        · rw [if_pos hc] at hm
          refine j_aload G d_A_get_57 rfl ?_
          obtain ⟨v12, hv12, hm⟩ := Option.bind_eq_some_iff.mp hm
          obtain ⟨v13, hv13, hm⟩ := Option.bind_eq_some_iff.mp hm
          refine j_callV (As := []) G d_A_get_59 (c_R_value _ G.off _ _ _ _ _ _ hv13) mw_R_value mi_R_value lk_A_79 rfl hv12 rfl rfl (Nat.le_of_ble_eq_true rfl) ⟨by decide, by decide⟩ ⟨by decide, by decide⟩ (fun v9 w9 hp => ?_)
          obtain ⟨rfl, rfl⟩ := hp
          obtain rfl := Option.some.inj hm
          exact j_lret G F.fin d_A_get_62 ⟨by decide, by decide⟩ ⟨_, rfl, rfl, rfl⟩
        · rw [if_neg hc] at hm
          obtain rfl := Option.some.inj hm
          exact j_throw (cls := "java/lang/UnsupportedOperationException") (text := "the record is broken") (Y := "java/lang/RuntimeException") (names := ["java/lang/Exception"]) (ix := 7) (bs := Bundle.six) G F (by decide +kernel) (by decide +kernel) (by decide +kernel) (by decide +kernel) (by decide +kernel) (by decide +kernel) (by decide +kernel) wd_2_200 wd_1_16 (by decide) ta_A_78 d_A_get_47 d_A_get_50 d_A_get_51 d_A_get_53 d_A_get_56 ⟨by decide, Nat.le_of_ble_eq_true rfl⟩ ⟨by decide, by decide⟩ ⟨rfl, rfl⟩
      · rw [if_pos hc] at hm
        obtain rfl := Option.some.inj hm
        exact j_throw (cls := "java/util/NoSuchElementException") (text := "the key has no value") (Y := "java/lang/RuntimeException") (names := ["java/lang/Exception"]) (ix := 13) (bs := aj_nse) G F (by decide +kernel) (by decide +kernel) (by decide +kernel) (by decide +kernel) (by decide +kernel) (by decide +kernel) (by decide +kernel) wd_3_27 wd_1_17 (by decide) ta_A_65 d_A_get_29 d_A_get_32 d_A_get_33 d_A_get_35 d_A_get_38 ⟨by decide, Nat.le_of_ble_eq_true rfl⟩ ⟨by decide, by decide⟩ ⟨rfl, rfl⟩
    · obtain ⟨hx9, rfl⟩ := hp
      rw [hx9] at hm
      dsimp only at hm
      obtain rfl := Option.some.inj hm
      exact j_out G F ⟨by decide, by decide⟩ ⟨rfl, rfl⟩
  · obtain ⟨hx9, rfl⟩ := hp
    rw [hx9] at hm
    dsimp only at hm
    obtain rfl := Option.some.inj hm
    exact j_out G F ⟨by decide, by decide⟩ ⟨rfl, rfl⟩
noncomputable def f_A_keys (w : aw_W) (o : Option Nat) : Option ((Int32 ⊕ String) × aw_W) :=
  (aw_obj w o 0).bind fun v1 =>
  (f_A_checkOpen w o).bind fun v2 =>
  match v2.1 with
  | .inl x3 =>
    (aw_gR v2.2 o 0 1).bind fun v4 =>
    (aw_obj v2.2 v4 1).bind fun v5 =>
    (f_D_count v2.2 v4).bind fun v6 =>
    some (.inl v6, v2.2)
  | .inr E9 => some (.inr E9, v2.2)
abbrev rm_A_keys : Room := { frames := 7, cells := 1, slots := 6, locals := 102 }
set_option maxRecDepth 100000 in
set_option maxHeartbeats 4000000 in
theorem cx_A_keys (l : Launch) (hl : l.stackTraces = false) (D : va_G) (dA : Nat → ClassId) (base : Nat) (w : aw_W) (o : Option Nat) (r : (Int32 ⊕ String) × aw_W) (hm : f_A_keys w o = some r) : aj_Cx l D dA base m_A_keys rm_A_keys [aRf o] w (fun v w' => ∃ x, r.1 = .inl x ∧ some (aI x) = v ∧ r.2 = w') (fun E w' => r.1 = .inr E ∧ r.2 = w') := by
  refine aj_enterX hl (by decide) (Nat.le_of_ble_eq_true rfl) ?_
  intro Γ G F
  unfold f_A_keys at hm
  refine j_aload_n G d_A_keys_0 rfl ?_
  obtain ⟨v1, hv1, hm⟩ := Option.bind_eq_some_iff.mp hm
  obtain ⟨v2, hv2, hm⟩ := Option.bind_eq_some_iff.mp hm
  refine j_callVx (As := []) G d_A_keys_1 (cx_A_checkOpen _ G.off _ _ _ _ _ _ hv2) mw_A_checkOpen mi_A_checkOpen wd_2_153 rfl hv1 rfl rfl (Nat.le_of_ble_eq_true rfl) ⟨by decide, by decide⟩ ⟨by decide, by decide⟩ (fun v9 w9 hp => ?_) (fun E9 w9 hp => ?_)
  · obtain ⟨x3, hx9, rfl, rfl⟩ := hp
    rw [hx9] at hm
    dsimp only at hm
    refine j_aload_n G d_A_keys_4 rfl ?_
    obtain ⟨v4, hv4, hm⟩ := Option.bind_eq_some_iff.mp hm
    refine j_gR G d_A_keys_5 fl_A_19 hv4 ?_
    obtain ⟨v5, hv5, hm⟩ := Option.bind_eq_some_iff.mp hm
    obtain ⟨v6, hv6, hm⟩ := Option.bind_eq_some_iff.mp hm
    refine j_callV (As := []) G d_A_keys_8 (c_D_count _ G.off _ _ _ _ _ _ hv6) mw_D_count mi_D_count lk_A_83 rfl hv5 rfl rfl (Nat.le_of_ble_eq_true rfl) ⟨by decide, by decide⟩ ⟨by decide, by decide⟩ (fun v9 w9 hp => ?_)
    obtain ⟨rfl, rfl⟩ := hp
    obtain rfl := Option.some.inj hm
    exact j_iret G F.fin d_A_keys_11 ⟨by decide, by decide⟩ ⟨_, rfl, rfl, rfl⟩
  · obtain ⟨hx9, rfl⟩ := hp
    rw [hx9] at hm
    dsimp only at hm
    obtain rfl := Option.some.inj hm
    exact j_out G F ⟨by decide, by decide⟩ ⟨rfl, rfl⟩
noncomputable def f_A_key (w : aw_W) (o : Option Nat) (p1 : Int32) (p2 : Int32) : Option ((Int64 ⊕ String) × aw_W) :=
  (f_A_checkRange w p2 (0 : Int32) (3 : Int32)).bind fun v1 =>
  match v1.1 with
  | .inl x2 =>
    (aw_obj v1.2 o 0).bind fun v3 =>
    (f_A_checkOpen v1.2 o).bind fun v4 =>
    match v4.1 with
    | .inl x5 =>
      (aw_gR v4.2 o 0 1).bind fun v6 =>
      (aw_obj v4.2 v6 1).bind fun v7 =>
      (f_D_at v4.2 v6 p1).bind fun v8 =>
      if v8 = none then
        some (.inr "java/util/NoSuchElementException", (none, v4.2.2))
      else
        if p2 = (0 : Int32) then
          (aw_gL v4.2 v8 4 2).bind fun v9 =>
          (f_K_size v4.2 v9).bind fun v10 =>
          some (.inl v10.toInt64, v4.2)
        else
        if p2 = (1 : Int32) then
          (aw_gL v4.2 v8 4 2).bind fun v11 =>
          (f_K_number v4.2 v11).bind fun v12 =>
          some (.inl v12, v4.2)
        else
        if p2 = (2 : Int32) then
          (aw_obj v4.2 v8 4).bind fun v13 =>
          (f_R_fileNumber v4.2 v8).bind fun v14 =>
          some (.inl v14.toInt64, v4.2)
        else
          (aw_gI v4.2 v8 4 1).bind fun v15 =>
          some (.inl v15.toInt64, v4.2)
    | .inr E9 => some (.inr E9, v4.2)
  | .inr E9 => some (.inr E9, v1.2)
abbrev rm_A_key : Room := { frames := 7, cells := 3, slots := 18, locals := 104 }
set_option maxRecDepth 100000 in
set_option maxHeartbeats 4000000 in
theorem cx_A_key (l : Launch) (hl : l.stackTraces = false) (D : va_G) (dA : Nat → ClassId) (base : Nat) (w : aw_W) (o : Option Nat) (p1 : Int32) (p2 : Int32) (r : (Int64 ⊕ String) × aw_W) (hm : f_A_key w o p1 p2 = some r) : aj_Cx l D dA base m_A_key rm_A_key [aRf o, aI p1, aI p2] w (fun v w' => ∃ x, r.1 = .inl x ∧ some (aL x) = v ∧ r.2 = w') (fun E w' => r.1 = .inr E ∧ r.2 = w') := by
  refine aj_enterX hl (by decide) (Nat.le_of_ble_eq_true rfl) ?_
  intro Γ G F
  unfold f_A_key at hm
  refine j_iload_n G d_A_key_0 rfl ?_
  refine j_iconst (v := 0) G d_A_key_1 (by decide) ?_
  refine j_iconst (v := 3) G d_A_key_2 (by decide) ?_
  obtain ⟨v1, hv1, hm⟩ := Option.bind_eq_some_iff.mp hm
  refine j_callSx (As := [aI p2, aI (0 : Int32), aI (3 : Int32)]) G d_A_key_3 (cx_A_checkRange _ G.off _ _ _ _ _ _ _ _ hv1) mw_A_checkRange ms_A_checkRange wd_2_82 rfl rfl (Nat.le_of_ble_eq_true rfl) ⟨by decide, by decide⟩ ⟨by decide, by decide⟩ (fun v9 w9 hp => ?_) (fun E9 w9 hp => ?_)
  · obtain ⟨x2, hx9, rfl, rfl⟩ := hp
    rw [hx9] at hm
    dsimp only at hm
    refine j_aload_n G d_A_key_6 rfl ?_
    obtain ⟨v3, hv3, hm⟩ := Option.bind_eq_some_iff.mp hm
    obtain ⟨v4, hv4, hm⟩ := Option.bind_eq_some_iff.mp hm
    refine j_callVx (As := []) G d_A_key_7 (cx_A_checkOpen _ G.off _ _ _ _ _ _ hv4) mw_A_checkOpen mi_A_checkOpen wd_2_153 rfl hv3 rfl rfl (Nat.le_of_ble_eq_true rfl) ⟨by decide, by decide⟩ ⟨by decide, by decide⟩ (fun v9 w9 hp => ?_) (fun E9 w9 hp => ?_)
    · obtain ⟨x5, hx9, rfl, rfl⟩ := hp
      rw [hx9] at hm
      dsimp only at hm
      refine j_aload_n G d_A_key_10 rfl ?_
      obtain ⟨v6, hv6, hm⟩ := Option.bind_eq_some_iff.mp hm
      refine j_gR G d_A_key_11 fl_A_19 hv6 ?_
      refine j_iload_n G d_A_key_14 rfl ?_
      obtain ⟨v7, hv7, hm⟩ := Option.bind_eq_some_iff.mp hm
      obtain ⟨v8, hv8, hm⟩ := Option.bind_eq_some_iff.mp hm
      refine j_callV (As := [aI p1]) G d_A_key_15 (c_D_at _ G.off _ _ _ _ _ _ _ hv8) mw_D_at mi_D_at lk_A_87 rfl hv7 rfl rfl (Nat.le_of_ble_eq_true rfl) ⟨by decide, by decide⟩ ⟨by decide, by decide⟩ (fun v9 w9 hp => ?_)
      obtain ⟨rfl, rfl⟩ := hp
      refine j_astore_n G d_A_key_18 (by decide) ?_
      refine j_aload_n G d_A_key_19 rfl ?_
      refine j_ifnonnull (tgt := 33) G d_A_key_20 rfl (fun hc => ?_) (fun hc => ?_)
      · rw [if_neg hc] at hm
        refine j_iload_n G d_A_key_33 rfl ?_
        by_cases hs0 : p2 = (0 : Int32)
        · rw [if_pos hs0] at hm
          refine j_tableIn (tgt := 60) (off := 26) G d_A_key_34 (by rw [hs0]; decide) (by rw [hs0]; decide) (by rw [hs0]; rfl) rfl ?_
          refine j_aload_n G d_A_key_60 rfl ?_
          obtain ⟨v9, hv9, hm⟩ := Option.bind_eq_some_iff.mp hm
          refine j_gL G d_A_key_61 fl_A_93 hv9 ?_
          obtain ⟨v10, hv10, hm⟩ := Option.bind_eq_some_iff.mp hm
          refine j_callS (As := [aL v9]) G d_A_key_64 (c_K_size _ G.off _ _ _ _ _ _ hv10) mw_K_size ms_K_size lk_A_96 rfl rfl (Nat.le_of_ble_eq_true rfl) ⟨by decide, by decide⟩ ⟨by decide, by decide⟩ (fun v9 w9 hp => ?_)
          obtain ⟨rfl, rfl⟩ := hp
          refine j_i2l G d_A_key_67 ?_
          obtain rfl := Option.some.inj hm
          exact j_lret G F.fin d_A_key_68 ⟨by decide, by decide⟩ ⟨_, rfl, rfl, rfl⟩
        · rw [if_neg hs0] at hm
          by_cases hs1 : p2 = (1 : Int32)
          · rw [if_pos hs1] at hm
            refine j_tableIn (tgt := 69) (off := 35) G d_A_key_34 (by rw [hs1]; decide) (by rw [hs1]; decide) (by rw [hs1]; rfl) rfl ?_
            refine j_aload_n G d_A_key_69 rfl ?_
            obtain ⟨v11, hv11, hm⟩ := Option.bind_eq_some_iff.mp hm
            refine j_gL G d_A_key_70 fl_A_93 hv11 ?_
            obtain ⟨v12, hv12, hm⟩ := Option.bind_eq_some_iff.mp hm
            refine j_callS (As := [aL v11]) G d_A_key_73 (c_K_number _ G.off _ _ _ _ _ _ hv12) mw_K_number ms_K_number lk_A_100 rfl rfl (Nat.le_of_ble_eq_true rfl) ⟨by decide, by decide⟩ ⟨by decide, by decide⟩ (fun v9 w9 hp => ?_)
            obtain ⟨rfl, rfl⟩ := hp
            obtain rfl := Option.some.inj hm
            exact j_lret G F.fin d_A_key_76 ⟨by decide, by decide⟩ ⟨_, rfl, rfl, rfl⟩
          · rw [if_neg hs1] at hm
            by_cases hs2 : p2 = (2 : Int32)
            · rw [if_pos hs2] at hm
              refine j_tableIn (tgt := 77) (off := 43) G d_A_key_34 (by rw [hs2]; decide) (by rw [hs2]; decide) (by rw [hs2]; rfl) rfl ?_
              refine j_aload_n G d_A_key_77 rfl ?_
              obtain ⟨v13, hv13, hm⟩ := Option.bind_eq_some_iff.mp hm
              obtain ⟨v14, hv14, hm⟩ := Option.bind_eq_some_iff.mp hm
              refine j_callV (As := []) G d_A_key_78 (c_R_fileNumber _ G.off _ _ _ _ _ _ hv14) mw_R_fileNumber mi_R_fileNumber lk_A_104 rfl hv13 rfl rfl (Nat.le_of_ble_eq_true rfl) ⟨by decide, by decide⟩ ⟨by decide, by decide⟩ (fun v9 w9 hp => ?_)
              obtain ⟨rfl, rfl⟩ := hp
              refine j_i2l G d_A_key_81 ?_
              obtain rfl := Option.some.inj hm
              exact j_lret G F.fin d_A_key_82 ⟨by decide, by decide⟩ ⟨_, rfl, rfl, rfl⟩
            · rw [if_neg hs2] at hm
              refine j_tableOut (tgt := 83) G d_A_key_34 (by have t0 : (p2).toInt ≠ 0 := fun h => hs0 (Int32.toInt_inj.mp (h.trans (by decide))); have t1 : (p2).toInt ≠ 1 := fun h => hs1 (Int32.toInt_inj.mp (h.trans (by decide))); have t2 : (p2).toInt ≠ 2 := fun h => hs2 (Int32.toInt_inj.mp (h.trans (by decide))); omega) rfl ?_
              refine j_aload_n G d_A_key_83 rfl ?_
              obtain ⟨v15, hv15, hm⟩ := Option.bind_eq_some_iff.mp hm
              refine j_gI G d_A_key_84 fl_A_107 hv15 ?_
              refine j_i2l G d_A_key_87 ?_
              obtain rfl := Option.some.inj hm
              exact j_lret G F.fin d_A_key_88 ⟨by decide, by decide⟩ ⟨_, rfl, rfl, rfl⟩
      · rw [if_pos hc] at hm
        obtain rfl := Option.some.inj hm
        exact j_throw (cls := "java/util/NoSuchElementException") (text := "there is no such key") (Y := "java/lang/RuntimeException") (names := ["java/lang/Exception"]) (ix := 13) (bs := aj_nse) G F (by decide +kernel) (by decide +kernel) (by decide +kernel) (by decide +kernel) (by decide +kernel) (by decide +kernel) (by decide +kernel) wd_3_27 wd_1_17 (by decide) ta_A_65 d_A_key_23 d_A_key_26 d_A_key_27 d_A_key_29 d_A_key_32 ⟨by decide, Nat.le_of_ble_eq_true rfl⟩ ⟨by decide, by decide⟩ ⟨rfl, rfl⟩
    · obtain ⟨hx9, rfl⟩ := hp
      rw [hx9] at hm
      dsimp only at hm
      obtain rfl := Option.some.inj hm
      exact j_out G F ⟨by decide, by decide⟩ ⟨rfl, rfl⟩
  · obtain ⟨hx9, rfl⟩ := hp
    rw [hx9] at hm
    dsimp only at hm
    obtain rfl := Option.some.inj hm
    exact j_out G F ⟨by decide, by decide⟩ ⟨rfl, rfl⟩
noncomputable def f_A_sync (w : aw_W) (o : Option Nat) : Option ((Unit ⊕ String) × aw_W) :=
  (aw_obj w o 0).bind fun v1 =>
  (f_A_checkOpen w o).bind fun v2 =>
  match v2.1 with
  | .inl x3 =>
    (aw_gR v2.2 o 0 0).bind fun v4 =>
    (aw_obj v2.2 v4 5).bind fun v5 =>
    (f_S_syncActive v2.2 v4).bind fun v6 =>
    some (.inl (), v6)
  | .inr E9 => some (.inr E9, v2.2)
abbrev rm_A_sync : Room := { frames := 7, cells := 1, slots := 6, locals := 102 }
set_option maxRecDepth 100000 in
set_option maxHeartbeats 4000000 in
theorem cx_A_sync (l : Launch) (hl : l.stackTraces = false) (D : va_G) (dA : Nat → ClassId) (base : Nat) (w : aw_W) (o : Option Nat) (r : (Unit ⊕ String) × aw_W) (hm : f_A_sync w o = some r) : aj_Cx l D dA base m_A_sync rm_A_sync [aRf o] w (fun v w' => ∃ x, r.1 = .inl x ∧ none = v ∧ r.2 = w') (fun E w' => r.1 = .inr E ∧ r.2 = w') := by
  refine aj_enterX hl (by decide) (Nat.le_of_ble_eq_true rfl) ?_
  intro Γ G F
  unfold f_A_sync at hm
  refine j_aload_n G d_A_sync_0 rfl ?_
  obtain ⟨v1, hv1, hm⟩ := Option.bind_eq_some_iff.mp hm
  obtain ⟨v2, hv2, hm⟩ := Option.bind_eq_some_iff.mp hm
  refine j_callVx (As := []) G d_A_sync_1 (cx_A_checkOpen _ G.off _ _ _ _ _ _ hv2) mw_A_checkOpen mi_A_checkOpen wd_2_153 rfl hv1 rfl rfl (Nat.le_of_ble_eq_true rfl) ⟨by decide, by decide⟩ ⟨by decide, by decide⟩ (fun v9 w9 hp => ?_) (fun E9 w9 hp => ?_)
  · obtain ⟨x3, hx9, rfl, rfl⟩ := hp
    rw [hx9] at hm
    dsimp only at hm
    refine j_aload_n G d_A_sync_4 rfl ?_
    obtain ⟨v4, hv4, hm⟩ := Option.bind_eq_some_iff.mp hm
    refine j_gR G d_A_sync_5 fl_A_10 hv4 ?_
    obtain ⟨v5, hv5, hm⟩ := Option.bind_eq_some_iff.mp hm
    obtain ⟨v6, hv6, hm⟩ := Option.bind_eq_some_iff.mp hm
    refine j_callV (As := []) G d_A_sync_8 (c_S_syncActive _ G.off _ _ _ _ _ _ hv6) mw_S_syncActive mi_S_syncActive lk_A_110 rfl hv5 rfl rfl (Nat.le_of_ble_eq_true rfl) ⟨by decide, by decide⟩ ⟨by decide, by decide⟩ (fun v9 w9 hp => ?_)
    obtain ⟨rfl, rfl⟩ := hp
    obtain rfl := Option.some.inj hm
    exact j_vret G F.fin d_A_sync_11 ⟨by decide, by decide⟩ ⟨_, rfl, rfl, rfl⟩
  · obtain ⟨hx9, rfl⟩ := hp
    rw [hx9] at hm
    dsimp only at hm
    obtain rfl := Option.some.inj hm
    exact j_out G F ⟨by decide, by decide⟩ ⟨rfl, rfl⟩
noncomputable def f_A_lose (w : aw_W) (o : Option Nat) (p1 : Int32) : Option ((Unit ⊕ String) × aw_W) :=
  (f_A_checkRange w p1 (0 : Int32) (100 : Int32)).bind fun v1 =>
  match v1.1 with
  | .inl x2 =>
    (aw_gR v1.2 o 0 0).bind fun v3 =>
    (aw_obj v1.2 v3 5).bind fun v4 =>
    (f_S_losePower v1.2 v3 p1).bind fun v5 =>
    (aw_gR v5 o 0 2).bind fun v6 =>
    (aw_obj v5 v6 2).bind fun v7 =>
    (f_G_drop v5 v6).bind fun v8 =>
    (aw_pV v8 o 0 4 (.int (1 : Int32))).bind fun v9 =>
    some (.inl (), v9)
  | .inr E9 => some (.inr E9, v1.2)
abbrev rm_A_lose : Room := { frames := 7, cells := 1, slots := 6, locals := 104 }
set_option maxRecDepth 100000 in
set_option maxHeartbeats 4000000 in
theorem cx_A_lose (l : Launch) (hl : l.stackTraces = false) (D : va_G) (dA : Nat → ClassId) (base : Nat) (w : aw_W) (o : Option Nat) (p1 : Int32) (r : (Unit ⊕ String) × aw_W) (hm : f_A_lose w o p1 = some r) : aj_Cx l D dA base m_A_lose rm_A_lose [aRf o, aI p1] w (fun v w' => ∃ x, r.1 = .inl x ∧ none = v ∧ r.2 = w') (fun E w' => r.1 = .inr E ∧ r.2 = w') := by
  refine aj_enterX hl (by decide) (Nat.le_of_ble_eq_true rfl) ?_
  intro Γ G F
  unfold f_A_lose at hm
  refine j_iload_n G d_A_lose_0 rfl ?_
  refine j_iconst (v := 0) G d_A_lose_1 (by decide) ?_
  refine j_bipush (v := 100) G d_A_lose_2 (by decide) ?_
  obtain ⟨v1, hv1, hm⟩ := Option.bind_eq_some_iff.mp hm
  refine j_callSx (As := [aI p1, aI (0 : Int32), aI (100 : Int32)]) G d_A_lose_4 (cx_A_checkRange _ G.off _ _ _ _ _ _ _ _ hv1) mw_A_checkRange ms_A_checkRange wd_2_82 rfl rfl (Nat.le_of_ble_eq_true rfl) ⟨by decide, by decide⟩ ⟨by decide, by decide⟩ (fun v9 w9 hp => ?_) (fun E9 w9 hp => ?_)
  · obtain ⟨x2, hx9, rfl, rfl⟩ := hp
    rw [hx9] at hm
    dsimp only at hm
    refine j_aload_n G d_A_lose_7 rfl ?_
    obtain ⟨v3, hv3, hm⟩ := Option.bind_eq_some_iff.mp hm
    refine j_gR G d_A_lose_8 fl_A_10 hv3 ?_
    refine j_iload_n G d_A_lose_11 rfl ?_
    obtain ⟨v4, hv4, hm⟩ := Option.bind_eq_some_iff.mp hm
    obtain ⟨v5, hv5, hm⟩ := Option.bind_eq_some_iff.mp hm
    refine j_callV (As := [aI p1]) G d_A_lose_12 (c_S_losePower _ G.off _ _ _ _ _ _ _ hv5) mw_S_losePower mi_S_losePower lk_A_113 rfl hv4 rfl rfl (Nat.le_of_ble_eq_true rfl) ⟨by decide, by decide⟩ ⟨by decide, by decide⟩ (fun v9 w9 hp => ?_)
    obtain ⟨rfl, rfl⟩ := hp
    refine j_aload_n G d_A_lose_15 rfl ?_
    obtain ⟨v6, hv6, hm⟩ := Option.bind_eq_some_iff.mp hm
    refine j_gR G d_A_lose_16 fl_A_26 hv6 ?_
    obtain ⟨v7, hv7, hm⟩ := Option.bind_eq_some_iff.mp hm
    obtain ⟨v8, hv8, hm⟩ := Option.bind_eq_some_iff.mp hm
    refine j_callV (As := []) G d_A_lose_19 (c_G_drop _ G.off _ _ _ _ _ _ hv8) mw_G_drop mi_G_drop lk_A_117 rfl hv7 rfl rfl (Nat.le_of_ble_eq_true rfl) ⟨by decide, by decide⟩ ⟨by decide, by decide⟩ (fun v9 w9 hp => ?_)
    obtain ⟨rfl, rfl⟩ := hp
    refine j_aload_n G d_A_lose_22 rfl ?_
    refine j_iconst (v := 1) G d_A_lose_23 (by decide) ?_
    obtain ⟨v9, hv9, hm⟩ := Option.bind_eq_some_iff.mp hm
    refine j_pV (ty := aY_A 4) G d_A_lose_24 fl_A_34 ac_A (aw_T_of_A 4 (by decide) rfl) (by decide) (by decide) hv9 ?_
    obtain rfl := Option.some.inj hm
    exact j_vret G F.fin d_A_lose_27 ⟨by decide, by decide⟩ ⟨_, rfl, rfl, rfl⟩
  · obtain ⟨hx9, rfl⟩ := hp
    rw [hx9] at hm
    dsimp only at hm
    obtain rfl := Option.some.inj hm
    exact j_out G F ⟨by decide, by decide⟩ ⟨rfl, rfl⟩
noncomputable def f_A_merge (w : aw_W) (o : Option Nat) (p1 : Int32) : Option ((Int32 ⊕ String) × aw_W) :=
  (f_A_checkRange w p1 (1 : Int32) (20 : Int32)).bind fun v1 =>
  match v1.1 with
  | .inl x2 =>
    (aw_obj v1.2 o 0).bind fun v3 =>
    (f_A_checkOpen v1.2 o).bind fun v4 =>
    match v4.1 with
    | .inl x5 =>
      (aw_gR v4.2 o 0 2).bind fun v6 =>
      (aw_obj v4.2 v6 2).bind fun v7 =>
      (f_G_goesOn v4.2 v6).bind fun v8 =>
      if v8 = 0 then
        (aw_gR v4.2 o 0 0).bind fun v9 =>
        (aw_obj v4.2 v9 5).bind fun v10 =>
        (f_S_sealedCount v4.2 v9).bind fun v11 =>
        if v11 = 0 then
          some (.inr "java/lang/IllegalStateException", (none, v4.2.2))
        else
          (aw_gR v4.2 o 0 2).bind fun v12 =>
          (aw_gR v4.2 o 0 0).bind fun v13 =>
          (aw_obj v4.2 v13 5).bind fun v14 =>
          (f_S_sealedCount v4.2 v13).bind fun v15 =>
          (aw_obj v4.2 v12 2).bind fun v16 =>
          (f_G_begin v4.2 v12 v15).bind fun v17 =>
          (aw_gR v17 o 0 2).bind fun v18 =>
          (aw_gR v17 o 0 0).bind fun v19 =>
          (aw_gR v17 o 0 1).bind fun v20 =>
          (aw_obj v17 v18 2).bind fun v21 =>
          (f_G_advance v17 v18 p1 v19 v20).bind fun v22 =>
          (aw_gR v22 o 0 2).bind fun v23 =>
          (aw_gR v22 o 0 0).bind fun v24 =>
          (aw_obj v22 v23 2).bind fun v25 =>
          (f_G_cameToAll v22 v23 v24).bind fun v26 =>
          if v26.1 = 0 then
            some (.inl (0 : Int32), v26.2)
          else
            (aw_gR v26.2 o 0 2).bind fun v27 =>
            (aw_gR v26.2 o 0 0).bind fun v28 =>
            (aw_gR v26.2 o 0 1).bind fun v29 =>
            (aw_obj v26.2 v27 2).bind fun v30 =>
            (f_G_publish v26.2 v27 v28 v29).bind fun v31 =>
            some (.inl (1 : Int32), v31)
      else
        (aw_gR v4.2 o 0 2).bind fun v32 =>
        (aw_gR v4.2 o 0 0).bind fun v33 =>
        (aw_gR v4.2 o 0 1).bind fun v34 =>
        (aw_obj v4.2 v32 2).bind fun v35 =>
        (f_G_advance v4.2 v32 p1 v33 v34).bind fun v36 =>
        (aw_gR v36 o 0 2).bind fun v37 =>
        (aw_gR v36 o 0 0).bind fun v38 =>
        (aw_obj v36 v37 2).bind fun v39 =>
        (f_G_cameToAll v36 v37 v38).bind fun v40 =>
        if v40.1 = 0 then
          some (.inl (0 : Int32), v40.2)
        else
          (aw_gR v40.2 o 0 2).bind fun v41 =>
          (aw_gR v40.2 o 0 0).bind fun v42 =>
          (aw_gR v40.2 o 0 1).bind fun v43 =>
          (aw_obj v40.2 v41 2).bind fun v44 =>
          (f_G_publish v40.2 v41 v42 v43).bind fun v45 =>
          some (.inl (1 : Int32), v45)
    | .inr E9 => some (.inr E9, v4.2)
  | .inr E9 => some (.inr E9, v1.2)
abbrev rm_A_merge : Room := { frames := 7, cells := 3, slots := 18, locals := 137 }
set_option maxRecDepth 100000 in
set_option maxHeartbeats 4000000 in
theorem cx_A_merge (l : Launch) (hl : l.stackTraces = false) (D : va_G) (dA : Nat → ClassId) (base : Nat) (w : aw_W) (o : Option Nat) (p1 : Int32) (r : (Int32 ⊕ String) × aw_W) (hm : f_A_merge w o p1 = some r) : aj_Cx l D dA base m_A_merge rm_A_merge [aRf o, aI p1] w (fun v w' => ∃ x, r.1 = .inl x ∧ some (aI x) = v ∧ r.2 = w') (fun E w' => r.1 = .inr E ∧ r.2 = w') := by
  refine aj_enterX hl (by decide) (Nat.le_of_ble_eq_true rfl) ?_
  intro Γ G F
  unfold f_A_merge at hm
  refine j_iload_n G d_A_merge_0 rfl ?_
  refine j_iconst (v := 1) G d_A_merge_1 (by decide) ?_
  refine j_bipush (v := 20) G d_A_merge_2 (by decide) ?_
  obtain ⟨v1, hv1, hm⟩ := Option.bind_eq_some_iff.mp hm
  refine j_callSx (As := [aI p1, aI (1 : Int32), aI (20 : Int32)]) G d_A_merge_4 (cx_A_checkRange _ G.off _ _ _ _ _ _ _ _ hv1) mw_A_checkRange ms_A_checkRange wd_2_82 rfl rfl (Nat.le_of_ble_eq_true rfl) ⟨by decide, by decide⟩ ⟨by decide, by decide⟩ (fun v9 w9 hp => ?_) (fun E9 w9 hp => ?_)
  · obtain ⟨x2, hx9, rfl, rfl⟩ := hp
    rw [hx9] at hm
    dsimp only at hm
    refine j_aload_n G d_A_merge_7 rfl ?_
    obtain ⟨v3, hv3, hm⟩ := Option.bind_eq_some_iff.mp hm
    obtain ⟨v4, hv4, hm⟩ := Option.bind_eq_some_iff.mp hm
    refine j_callVx (As := []) G d_A_merge_8 (cx_A_checkOpen _ G.off _ _ _ _ _ _ hv4) mw_A_checkOpen mi_A_checkOpen wd_2_153 rfl hv3 rfl rfl (Nat.le_of_ble_eq_true rfl) ⟨by decide, by decide⟩ ⟨by decide, by decide⟩ (fun v9 w9 hp => ?_) (fun E9 w9 hp => ?_)
    · obtain ⟨x5, hx9, rfl, rfl⟩ := hp
      rw [hx9] at hm
      dsimp only at hm
      refine j_aload_n G d_A_merge_11 rfl ?_
      obtain ⟨v6, hv6, hm⟩ := Option.bind_eq_some_iff.mp hm
      refine j_gR G d_A_merge_12 fl_A_26 hv6 ?_
      obtain ⟨v7, hv7, hm⟩ := Option.bind_eq_some_iff.mp hm
      obtain ⟨v8, hv8, hm⟩ := Option.bind_eq_some_iff.mp hm
      refine j_callV (As := []) G d_A_merge_15 (c_G_goesOn _ G.off _ _ _ _ _ _ hv8) mw_G_goesOn mi_G_goesOn lk_A_140 rfl hv7 rfl rfl (Nat.le_of_ble_eq_true rfl) ⟨by decide, by decide⟩ ⟨by decide, by decide⟩ (fun v9 w9 hp => ?_)
      obtain ⟨rfl, rfl⟩ := hp
      refine j_if_ne (tgt := 55) G d_A_merge_18 rfl (fun hc => ?_) (fun hc => ?_)
      · rw [if_neg hc] at hm
        refine j_aload_n G d_A_merge_55 rfl ?_
        obtain ⟨v9, hv9, hm⟩ := Option.bind_eq_some_iff.mp hm
        refine j_gR G d_A_merge_56 fl_A_26 hv9 ?_
        refine j_iload_n G d_A_merge_59 rfl ?_
        refine j_aload_n G d_A_merge_60 rfl ?_
        obtain ⟨v10, hv10, hm⟩ := Option.bind_eq_some_iff.mp hm
        refine j_gR G d_A_merge_61 fl_A_10 hv10 ?_
        refine j_aload_n G d_A_merge_64 rfl ?_
        obtain ⟨v11, hv11, hm⟩ := Option.bind_eq_some_iff.mp hm
        refine j_gR G d_A_merge_65 fl_A_19 hv11 ?_
        obtain ⟨v12, hv12, hm⟩ := Option.bind_eq_some_iff.mp hm
        obtain ⟨v13, hv13, hm⟩ := Option.bind_eq_some_iff.mp hm
        refine j_callV (As := [aI p1, aRf v10, aRf v11]) G d_A_merge_68 (c_G_advance _ G.off _ _ _ _ _ _ _ _ _ hv13) mw_G_advance mi_G_advance lk_A_154 rfl hv12 rfl rfl (Nat.le_of_ble_eq_true rfl) ⟨by decide, by decide⟩ ⟨by decide, by decide⟩ (fun v9 w9 hp => ?_)
        obtain ⟨rfl, rfl⟩ := hp
        refine j_aload_n G d_A_merge_71 rfl ?_
        obtain ⟨v14, hv14, hm⟩ := Option.bind_eq_some_iff.mp hm
        refine j_gR G d_A_merge_72 fl_A_26 hv14 ?_
        refine j_aload_n G d_A_merge_75 rfl ?_
        obtain ⟨v15, hv15, hm⟩ := Option.bind_eq_some_iff.mp hm
        refine j_gR G d_A_merge_76 fl_A_10 hv15 ?_
        obtain ⟨v16, hv16, hm⟩ := Option.bind_eq_some_iff.mp hm
        obtain ⟨v17, hv17, hm⟩ := Option.bind_eq_some_iff.mp hm
        refine j_callV (As := [aRf v15]) G d_A_merge_79 (c_G_cameToAll _ G.off _ _ _ _ _ _ _ hv17) mw_G_cameToAll mi_G_cameToAll lk_A_158 rfl hv16 rfl rfl (Nat.le_of_ble_eq_true rfl) ⟨by decide, by decide⟩ ⟨by decide, by decide⟩ (fun v9 w9 hp => ?_)
        obtain ⟨rfl, rfl⟩ := hp
        refine j_if_ne (tgt := 87) G d_A_merge_82 rfl (fun hc => ?_) (fun hc => ?_)
        · rw [if_neg hc] at hm
          refine j_aload_n G d_A_merge_87 rfl ?_
          obtain ⟨v18, hv18, hm⟩ := Option.bind_eq_some_iff.mp hm
          refine j_gR G d_A_merge_88 fl_A_26 hv18 ?_
          refine j_aload_n G d_A_merge_91 rfl ?_
          obtain ⟨v19, hv19, hm⟩ := Option.bind_eq_some_iff.mp hm
          refine j_gR G d_A_merge_92 fl_A_10 hv19 ?_
          refine j_aload_n G d_A_merge_95 rfl ?_
          obtain ⟨v20, hv20, hm⟩ := Option.bind_eq_some_iff.mp hm
          refine j_gR G d_A_merge_96 fl_A_19 hv20 ?_
          obtain ⟨v21, hv21, hm⟩ := Option.bind_eq_some_iff.mp hm
          obtain ⟨v22, hv22, hm⟩ := Option.bind_eq_some_iff.mp hm
          refine j_callV (As := [aRf v19, aRf v20]) G d_A_merge_99 (c_G_publish _ G.off _ _ _ _ _ _ _ _ hv22) mw_G_publish mi_G_publish lk_A_162 rfl hv21 rfl rfl (Nat.le_of_ble_eq_true rfl) ⟨by decide, by decide⟩ ⟨by decide, by decide⟩ (fun v9 w9 hp => ?_)
          obtain ⟨rfl, rfl⟩ := hp
          refine j_iconst (v := 1) G d_A_merge_102 (by decide) ?_
          obtain rfl := Option.some.inj hm
          exact j_zret G F.fin d_A_merge_103 ⟨by decide, by decide⟩ (by decide) ⟨_, rfl, rfl, rfl⟩
        · rw [if_pos hc] at hm
          refine j_iconst (v := 0) G d_A_merge_85 (by decide) ?_
          obtain rfl := Option.some.inj hm
          exact j_zret G F.fin d_A_merge_86 ⟨by decide, by decide⟩ (by decide) ⟨_, rfl, rfl, rfl⟩
      · rw [if_pos hc] at hm
        refine j_aload_n G d_A_merge_21 rfl ?_
        obtain ⟨v23, hv23, hm⟩ := Option.bind_eq_some_iff.mp hm
        refine j_gR G d_A_merge_22 fl_A_10 hv23 ?_
        obtain ⟨v24, hv24, hm⟩ := Option.bind_eq_some_iff.mp hm
        obtain ⟨v25, hv25, hm⟩ := Option.bind_eq_some_iff.mp hm
        refine j_callV (As := []) G d_A_merge_25 (c_S_sealedCount _ G.off _ _ _ _ _ _ hv25) mw_S_sealedCount mi_S_sealedCount lk_A_143 rfl hv24 rfl rfl (Nat.le_of_ble_eq_true rfl) ⟨by decide, by decide⟩ ⟨by decide, by decide⟩ (fun v9 w9 hp => ?_)
        obtain ⟨rfl, rfl⟩ := hp
        refine j_if_ne (tgt := 41) G d_A_merge_28 rfl (fun hc => ?_) (fun hc => ?_)
        · rw [if_neg hc] at hm
          refine j_aload_n G d_A_merge_41 rfl ?_
          obtain ⟨v26, hv26, hm⟩ := Option.bind_eq_some_iff.mp hm
          refine j_gR G d_A_merge_42 fl_A_26 hv26 ?_
          refine j_aload_n G d_A_merge_45 rfl ?_
          obtain ⟨v27, hv27, hm⟩ := Option.bind_eq_some_iff.mp hm
          refine j_gR G d_A_merge_46 fl_A_10 hv27 ?_
          obtain ⟨v28, hv28, hm⟩ := Option.bind_eq_some_iff.mp hm
          obtain ⟨v29, hv29, hm⟩ := Option.bind_eq_some_iff.mp hm
          refine j_callV (As := []) G d_A_merge_49 (c_S_sealedCount _ G.off _ _ _ _ _ _ hv29) mw_S_sealedCount mi_S_sealedCount lk_A_143 rfl hv28 rfl rfl (Nat.le_of_ble_eq_true rfl) ⟨by decide, by decide⟩ ⟨by decide, by decide⟩ (fun v9 w9 hp => ?_)
          obtain ⟨rfl, rfl⟩ := hp
          obtain ⟨v30, hv30, hm⟩ := Option.bind_eq_some_iff.mp hm
          obtain ⟨v31, hv31, hm⟩ := Option.bind_eq_some_iff.mp hm
          refine j_callV (As := [aI v29]) G d_A_merge_52 (c_G_begin _ G.off _ _ _ _ _ _ _ hv31) mw_G_begin mi_G_begin lk_A_151 rfl hv30 rfl rfl (Nat.le_of_ble_eq_true rfl) ⟨by decide, by decide⟩ ⟨by decide, by decide⟩ (fun v9 w9 hp => ?_)
          obtain ⟨rfl, rfl⟩ := hp
          refine j_aload_n G d_A_merge_55 rfl ?_
          obtain ⟨v32, hv32, hm⟩ := Option.bind_eq_some_iff.mp hm
          refine j_gR G d_A_merge_56 fl_A_26 hv32 ?_
          refine j_iload_n G d_A_merge_59 rfl ?_
          refine j_aload_n G d_A_merge_60 rfl ?_
          obtain ⟨v33, hv33, hm⟩ := Option.bind_eq_some_iff.mp hm
          refine j_gR G d_A_merge_61 fl_A_10 hv33 ?_
          refine j_aload_n G d_A_merge_64 rfl ?_
          obtain ⟨v34, hv34, hm⟩ := Option.bind_eq_some_iff.mp hm
          refine j_gR G d_A_merge_65 fl_A_19 hv34 ?_
          obtain ⟨v35, hv35, hm⟩ := Option.bind_eq_some_iff.mp hm
          obtain ⟨v36, hv36, hm⟩ := Option.bind_eq_some_iff.mp hm
          refine j_callV (As := [aI p1, aRf v33, aRf v34]) G d_A_merge_68 (c_G_advance _ G.off _ _ _ _ _ _ _ _ _ hv36) mw_G_advance mi_G_advance lk_A_154 rfl hv35 rfl rfl (Nat.le_of_ble_eq_true rfl) ⟨by decide, by decide⟩ ⟨by decide, by decide⟩ (fun v9 w9 hp => ?_)
          obtain ⟨rfl, rfl⟩ := hp
          refine j_aload_n G d_A_merge_71 rfl ?_
          obtain ⟨v37, hv37, hm⟩ := Option.bind_eq_some_iff.mp hm
          refine j_gR G d_A_merge_72 fl_A_26 hv37 ?_
          refine j_aload_n G d_A_merge_75 rfl ?_
          obtain ⟨v38, hv38, hm⟩ := Option.bind_eq_some_iff.mp hm
          refine j_gR G d_A_merge_76 fl_A_10 hv38 ?_
          obtain ⟨v39, hv39, hm⟩ := Option.bind_eq_some_iff.mp hm
          obtain ⟨v40, hv40, hm⟩ := Option.bind_eq_some_iff.mp hm
          refine j_callV (As := [aRf v38]) G d_A_merge_79 (c_G_cameToAll _ G.off _ _ _ _ _ _ _ hv40) mw_G_cameToAll mi_G_cameToAll lk_A_158 rfl hv39 rfl rfl (Nat.le_of_ble_eq_true rfl) ⟨by decide, by decide⟩ ⟨by decide, by decide⟩ (fun v9 w9 hp => ?_)
          obtain ⟨rfl, rfl⟩ := hp
          refine j_if_ne (tgt := 87) G d_A_merge_82 rfl (fun hc => ?_) (fun hc => ?_)
          · rw [if_neg hc] at hm
            refine j_aload_n G d_A_merge_87 rfl ?_
            obtain ⟨v41, hv41, hm⟩ := Option.bind_eq_some_iff.mp hm
            refine j_gR G d_A_merge_88 fl_A_26 hv41 ?_
            refine j_aload_n G d_A_merge_91 rfl ?_
            obtain ⟨v42, hv42, hm⟩ := Option.bind_eq_some_iff.mp hm
            refine j_gR G d_A_merge_92 fl_A_10 hv42 ?_
            refine j_aload_n G d_A_merge_95 rfl ?_
            obtain ⟨v43, hv43, hm⟩ := Option.bind_eq_some_iff.mp hm
            refine j_gR G d_A_merge_96 fl_A_19 hv43 ?_
            obtain ⟨v44, hv44, hm⟩ := Option.bind_eq_some_iff.mp hm
            obtain ⟨v45, hv45, hm⟩ := Option.bind_eq_some_iff.mp hm
            refine j_callV (As := [aRf v42, aRf v43]) G d_A_merge_99 (c_G_publish _ G.off _ _ _ _ _ _ _ _ hv45) mw_G_publish mi_G_publish lk_A_162 rfl hv44 rfl rfl (Nat.le_of_ble_eq_true rfl) ⟨by decide, by decide⟩ ⟨by decide, by decide⟩ (fun v9 w9 hp => ?_)
            obtain ⟨rfl, rfl⟩ := hp
            refine j_iconst (v := 1) G d_A_merge_102 (by decide) ?_
            obtain rfl := Option.some.inj hm
            exact j_zret G F.fin d_A_merge_103 ⟨by decide, by decide⟩ (by decide) ⟨_, rfl, rfl, rfl⟩
          · rw [if_pos hc] at hm
            refine j_iconst (v := 0) G d_A_merge_85 (by decide) ?_
            obtain rfl := Option.some.inj hm
            exact j_zret G F.fin d_A_merge_86 ⟨by decide, by decide⟩ (by decide) ⟨_, rfl, rfl, rfl⟩
        · rw [if_pos hc] at hm
          obtain rfl := Option.some.inj hm
          exact j_throw (cls := "java/lang/IllegalStateException") (text := "there is no sealed file") (Y := "java/lang/RuntimeException") (names := ["java/lang/Exception"]) (ix := 7) (bs := Bundle.six) G F (by decide +kernel) (by decide +kernel) (by decide +kernel) (by decide +kernel) (by decide +kernel) (by decide +kernel) (by decide +kernel) wd_2_157 wd_1_13 (by decide) ta_A_150 d_A_merge_31 d_A_merge_34 d_A_merge_35 d_A_merge_37 d_A_merge_40 ⟨by decide, Nat.le_of_ble_eq_true rfl⟩ ⟨by decide, by decide⟩ ⟨rfl, rfl⟩
    · obtain ⟨hx9, rfl⟩ := hp
      rw [hx9] at hm
      dsimp only at hm
      obtain rfl := Option.some.inj hm
      exact j_out G F ⟨by decide, by decide⟩ ⟨rfl, rfl⟩
  · obtain ⟨hx9, rfl⟩ := hp
    rw [hx9] at hm
    dsimp only at hm
    obtain rfl := Option.some.inj hm
    exact j_out G F ⟨by decide, by decide⟩ ⟨rfl, rfl⟩
noncomputable def f_A_file (w : aw_W) (o : Option Nat) (p1 : Int32) (p2 : Int32) : Option ((Int32 ⊕ String) × aw_W) :=
  (f_A_checkRange w p2 (0 : Int32) (4 : Int32)).bind fun v1 =>
  match v1.1 with
  | .inl x2 =>
    (aw_gR v1.2 o 0 0).bind fun v3 =>
    (aw_obj v1.2 v3 5).bind fun v4 =>
    (f_S_at v1.2 v3 p1).bind fun v5 =>
    if v5 = none then
      some (.inr "java/lang/IllegalArgumentException", (none, v1.2.2))
    else
      if p2 = (0 : Int32) then
        (aw_obj v1.2 v5 6).bind fun v6 =>
        (f_F_number v1.2 v5).bind fun v7 =>
        some (.inl v7, v1.2)
      else
      if p2 = (1 : Int32) then
        (aw_obj v1.2 v5 6).bind fun v8 =>
        (f_F_bytes v1.2 v5).bind fun v9 =>
        (aw_obj v1.2 v9 3).bind fun v10 =>
        (f_O_size v1.2 v9).bind fun v11 =>
        some (.inl v11, v1.2)
      else
      if p2 = (2 : Int32) then
        (aw_obj v1.2 v5 6).bind fun v12 =>
        (f_F_synced v1.2 v5).bind fun v13 =>
        some (.inl v13, v1.2)
      else
      if p2 = (3 : Int32) then
        (aw_gI v1.2 o 0 4).bind fun v14 =>
        (if v14 = 0 then
            (aw_gR v1.2 o 0 1).bind fun v15 =>
            (aw_obj v1.2 v5 6).bind fun v16 =>
            (f_F_liveBytes v1.2 v5 v15).bind fun v17 =>
            some v17
          else
            some (0 : Int32) : Option (Int32)).bind fun j18 =>
        some (.inl j18, v1.2)
      else
        (aw_obj v1.2 v5 6).bind fun v19 =>
        (f_F_hint v1.2 v5).bind fun v20 =>
        (aw_obj v1.2 v20 3).bind fun v21 =>
        (f_O_size v1.2 v20).bind fun v22 =>
        some (.inl v22, v1.2)
  | .inr E9 => some (.inr E9, v1.2)
abbrev rm_A_file : Room := { frames := 7, cells := 2, slots := 12, locals := 104 }
set_option maxRecDepth 100000 in
set_option maxHeartbeats 4000000 in
theorem cx_A_file (l : Launch) (hl : l.stackTraces = false) (D : va_G) (dA : Nat → ClassId) (base : Nat) (w : aw_W) (o : Option Nat) (p1 : Int32) (p2 : Int32) (r : (Int32 ⊕ String) × aw_W) (hm : f_A_file w o p1 p2 = some r) : aj_Cx l D dA base m_A_file rm_A_file [aRf o, aI p1, aI p2] w (fun v w' => ∃ x, r.1 = .inl x ∧ some (aI x) = v ∧ r.2 = w') (fun E w' => r.1 = .inr E ∧ r.2 = w') := by
  refine aj_enterX hl (by decide) (Nat.le_of_ble_eq_true rfl) ?_
  intro Γ G F
  unfold f_A_file at hm
  refine j_iload_n G d_A_file_0 rfl ?_
  refine j_iconst (v := 0) G d_A_file_1 (by decide) ?_
  refine j_iconst (v := 4) G d_A_file_2 (by decide) ?_
  obtain ⟨v1, hv1, hm⟩ := Option.bind_eq_some_iff.mp hm
  refine j_callSx (As := [aI p2, aI (0 : Int32), aI (4 : Int32)]) G d_A_file_3 (cx_A_checkRange _ G.off _ _ _ _ _ _ _ _ hv1) mw_A_checkRange ms_A_checkRange wd_2_82 rfl rfl (Nat.le_of_ble_eq_true rfl) ⟨by decide, by decide⟩ ⟨by decide, by decide⟩ (fun v9 w9 hp => ?_) (fun E9 w9 hp => ?_)
  · obtain ⟨x2, hx9, rfl, rfl⟩ := hp
    rw [hx9] at hm
    dsimp only at hm
    refine j_aload_n G d_A_file_6 rfl ?_
    obtain ⟨v3, hv3, hm⟩ := Option.bind_eq_some_iff.mp hm
    refine j_gR G d_A_file_7 fl_A_10 hv3 ?_
    refine j_iload_n G d_A_file_10 rfl ?_
    obtain ⟨v4, hv4, hm⟩ := Option.bind_eq_some_iff.mp hm
    obtain ⟨v5, hv5, hm⟩ := Option.bind_eq_some_iff.mp hm
    refine j_callV (As := [aI p1]) G d_A_file_11 (c_S_at _ G.off _ _ _ _ _ _ _ hv5) mw_S_at mi_S_at lk_A_127 rfl hv4 rfl rfl (Nat.le_of_ble_eq_true rfl) ⟨by decide, by decide⟩ ⟨by decide, by decide⟩ (fun v9 w9 hp => ?_)
    obtain ⟨rfl, rfl⟩ := hp
    refine j_astore_n G d_A_file_14 (by decide) ?_
    refine j_aload_n G d_A_file_15 rfl ?_
    refine j_ifnonnull (tgt := 29) G d_A_file_16 rfl (fun hc => ?_) (fun hc => ?_)
    · rw [if_neg hc] at hm
      refine j_iload_n G d_A_file_29 rfl ?_
      by_cases hs0 : p2 = (0 : Int32)
      · rw [if_pos hs0] at hm
        refine j_tableIn (tgt := 60) (off := 30) G d_A_file_30 (by rw [hs0]; decide) (by rw [hs0]; decide) (by rw [hs0]; rfl) rfl ?_
        refine j_aload_n G d_A_file_60 rfl ?_
        obtain ⟨v6, hv6, hm⟩ := Option.bind_eq_some_iff.mp hm
        obtain ⟨v7, hv7, hm⟩ := Option.bind_eq_some_iff.mp hm
        refine j_callV (As := []) G d_A_file_61 (c_F_number _ G.off _ _ _ _ _ _ hv7) mw_F_number mi_F_number lk_A_171 rfl hv6 rfl rfl (Nat.le_of_ble_eq_true rfl) ⟨by decide, by decide⟩ ⟨by decide, by decide⟩ (fun v9 w9 hp => ?_)
        obtain ⟨rfl, rfl⟩ := hp
        obtain rfl := Option.some.inj hm
        exact j_iret G F.fin d_A_file_64 ⟨by decide, by decide⟩ ⟨_, rfl, rfl, rfl⟩
      · rw [if_neg hs0] at hm
        by_cases hs1 : p2 = (1 : Int32)
        · rw [if_pos hs1] at hm
          refine j_tableIn (tgt := 65) (off := 35) G d_A_file_30 (by rw [hs1]; decide) (by rw [hs1]; decide) (by rw [hs1]; rfl) rfl ?_
          refine j_aload_n G d_A_file_65 rfl ?_
          obtain ⟨v8, hv8, hm⟩ := Option.bind_eq_some_iff.mp hm
          obtain ⟨v9, hv9, hm⟩ := Option.bind_eq_some_iff.mp hm
          refine j_callV (As := []) G d_A_file_66 (c_F_bytes _ G.off _ _ _ _ _ _ hv9) mw_F_bytes mi_F_bytes lk_A_173 rfl hv8 rfl rfl (Nat.le_of_ble_eq_true rfl) ⟨by decide, by decide⟩ ⟨by decide, by decide⟩ (fun v9 w9 hp => ?_)
          obtain ⟨rfl, rfl⟩ := hp
          obtain ⟨v10, hv10, hm⟩ := Option.bind_eq_some_iff.mp hm
          obtain ⟨v11, hv11, hm⟩ := Option.bind_eq_some_iff.mp hm
          refine j_callV (As := []) G d_A_file_69 (c_O_size _ G.off _ _ _ _ _ _ hv11) mw_O_size mi_O_size lk_A_177 rfl hv10 rfl rfl (Nat.le_of_ble_eq_true rfl) ⟨by decide, by decide⟩ ⟨by decide, by decide⟩ (fun v9 w9 hp => ?_)
          obtain ⟨rfl, rfl⟩ := hp
          obtain rfl := Option.some.inj hm
          exact j_iret G F.fin d_A_file_72 ⟨by decide, by decide⟩ ⟨_, rfl, rfl, rfl⟩
        · rw [if_neg hs1] at hm
          by_cases hs2 : p2 = (2 : Int32)
          · rw [if_pos hs2] at hm
            refine j_tableIn (tgt := 73) (off := 43) G d_A_file_30 (by rw [hs2]; decide) (by rw [hs2]; decide) (by rw [hs2]; rfl) rfl ?_
            refine j_aload_n G d_A_file_73 rfl ?_
            obtain ⟨v12, hv12, hm⟩ := Option.bind_eq_some_iff.mp hm
            obtain ⟨v13, hv13, hm⟩ := Option.bind_eq_some_iff.mp hm
            refine j_callV (As := []) G d_A_file_74 (c_F_synced _ G.off _ _ _ _ _ _ hv13) mw_F_synced mi_F_synced lk_A_181 rfl hv12 rfl rfl (Nat.le_of_ble_eq_true rfl) ⟨by decide, by decide⟩ ⟨by decide, by decide⟩ (fun v9 w9 hp => ?_)
            obtain ⟨rfl, rfl⟩ := hp
            obtain rfl := Option.some.inj hm
            exact j_iret G F.fin d_A_file_77 ⟨by decide, by decide⟩ ⟨_, rfl, rfl, rfl⟩
          · rw [if_neg hs2] at hm
            by_cases hs3 : p2 = (3 : Int32)
            · rw [if_pos hs3] at hm
              refine j_tableIn (tgt := 78) (off := 48) G d_A_file_30 (by rw [hs3]; decide) (by rw [hs3]; decide) (by rw [hs3]; rfl) rfl ?_
              refine j_aload_n G d_A_file_78 rfl ?_
              obtain ⟨v14, hv14, hm⟩ := Option.bind_eq_some_iff.mp hm
              refine j_gI G d_A_file_79 fl_A_34 hv14 ?_
              obtain ⟨j15, hj15, ho15⟩ := Option.bind_eq_some_iff.mp hm
              clear hm
              have hJ15 : aj_J Γ 4 (1, 6) 97 [] [aI j15] v1.2 := by
                clear hj15
                have hm := ho15
                clear ho15
                obtain rfl := Option.some.inj hm
                exact j_iret G F.fin d_A_file_97 ⟨by decide, by decide⟩ ⟨_, rfl, rfl, rfl⟩
              clear ho15
              have hm := hj15
              clear hj15
              refine j_if_eq (tgt := 89) G d_A_file_82 rfl (fun hc => ?_) (fun hc => ?_)
              · rw [if_pos hc] at hm
                refine j_aload_n G d_A_file_89 rfl ?_
                refine j_aload_n G d_A_file_90 rfl ?_
                obtain ⟨v16, hv16, hm⟩ := Option.bind_eq_some_iff.mp hm
                refine j_gR G d_A_file_91 fl_A_19 hv16 ?_
                obtain ⟨v17, hv17, hm⟩ := Option.bind_eq_some_iff.mp hm
                obtain ⟨v18, hv18, hm⟩ := Option.bind_eq_some_iff.mp hm
                refine j_callV (As := [aRf v16]) G d_A_file_94 (c_F_liveBytes _ G.off _ _ _ _ _ _ _ hv18) mw_F_liveBytes mi_F_liveBytes lk_A_184 rfl hv17 rfl rfl (Nat.le_of_ble_eq_true rfl) ⟨by decide, by decide⟩ ⟨by decide, by decide⟩ (fun v9 w9 hp => ?_)
                obtain ⟨rfl, rfl⟩ := hp
                obtain rfl := Option.some.inj hm
                refine j_lv [] rfl ?_
                exact hJ15
              · rw [if_neg hc] at hm
                refine j_iconst (v := 0) G d_A_file_85 (by decide) ?_
                refine j_goto (tgt := 97) G d_A_file_86 rfl ?_
                obtain rfl := Option.some.inj hm
                refine j_lv [] rfl ?_
                exact hJ15
            · rw [if_neg hs3] at hm
              refine j_tableOut (tgt := 98) G d_A_file_30 (by have t0 : (p2).toInt ≠ 0 := fun h => hs0 (Int32.toInt_inj.mp (h.trans (by decide))); have t1 : (p2).toInt ≠ 1 := fun h => hs1 (Int32.toInt_inj.mp (h.trans (by decide))); have t2 : (p2).toInt ≠ 2 := fun h => hs2 (Int32.toInt_inj.mp (h.trans (by decide))); have t3 : (p2).toInt ≠ 3 := fun h => hs3 (Int32.toInt_inj.mp (h.trans (by decide))); omega) rfl ?_
              refine j_aload_n G d_A_file_98 rfl ?_
              obtain ⟨v19, hv19, hm⟩ := Option.bind_eq_some_iff.mp hm
              obtain ⟨v20, hv20, hm⟩ := Option.bind_eq_some_iff.mp hm
              refine j_callV (As := []) G d_A_file_99 (c_F_hint _ G.off _ _ _ _ _ _ hv20) mw_F_hint mi_F_hint lk_A_188 rfl hv19 rfl rfl (Nat.le_of_ble_eq_true rfl) ⟨by decide, by decide⟩ ⟨by decide, by decide⟩ (fun v9 w9 hp => ?_)
              obtain ⟨rfl, rfl⟩ := hp
              obtain ⟨v21, hv21, hm⟩ := Option.bind_eq_some_iff.mp hm
              obtain ⟨v22, hv22, hm⟩ := Option.bind_eq_some_iff.mp hm
              refine j_callV (As := []) G d_A_file_102 (c_O_size _ G.off _ _ _ _ _ _ hv22) mw_O_size mi_O_size lk_A_177 rfl hv21 rfl rfl (Nat.le_of_ble_eq_true rfl) ⟨by decide, by decide⟩ ⟨by decide, by decide⟩ (fun v9 w9 hp => ?_)
              obtain ⟨rfl, rfl⟩ := hp
              obtain rfl := Option.some.inj hm
              exact j_iret G F.fin d_A_file_105 ⟨by decide, by decide⟩ ⟨_, rfl, rfl, rfl⟩
    · rw [if_pos hc] at hm
      obtain rfl := Option.some.inj hm
      exact j_throw (cls := "java/lang/IllegalArgumentException") (text := "there is no such file") (Y := "java/lang/RuntimeException") (names := ["java/lang/Exception"]) (ix := 7) (bs := Bundle.six) G F (by decide +kernel) (by decide +kernel) (by decide +kernel) (by decide +kernel) (by decide +kernel) (by decide +kernel) (by decide +kernel) wd_2_85 wd_1_12 (by decide) ta_A_170 d_A_file_19 d_A_file_22 d_A_file_23 d_A_file_25 d_A_file_28 ⟨by decide, Nat.le_of_ble_eq_true rfl⟩ ⟨by decide, by decide⟩ ⟨rfl, rfl⟩
  · obtain ⟨hx9, rfl⟩ := hp
    rw [hx9] at hm
    dsimp only at hm
    obtain rfl := Option.some.inj hm
    exact j_out G F ⟨by decide, by decide⟩ ⟨rfl, rfl⟩
noncomputable def f_A_rowWith (w : aw_W) (o : Option Nat) (p1 : Int32) (p2 : Int32) (p3 : Int32) : Option (((Option Nat) ⊕ String) × aw_W) :=
  (aw_gR w o 0 0).bind fun v1 =>
  (aw_obj w v1 5).bind fun v2 =>
  (f_S_at w v1 p1).bind fun v3 =>
  if v3 = none then
    some (.inr "java/lang/IllegalArgumentException", (none, w.2))
  else
    (if p3 = 0 then
        (aw_obj w v3 6).bind fun v4 =>
        (f_F_bytes w v3).bind fun v5 =>
        some v5
      else
        (aw_obj w v3 6).bind fun v6 =>
        (f_F_hint w v3).bind fun v7 =>
        some v7 : Option (Option Nat)).bind fun j8 =>
    (aw_obj w j8 3).bind fun v9 =>
    (f_O_has w j8 p2).bind fun v10 =>
    if v10 = 0 then
      some (.inr "java/lang/IllegalArgumentException", (none, w.2))
    else
      some (.inl j8, w)
abbrev rm_A_rowWith : Room := { frames := 6, cells := 1, slots := 6, locals := 82 }
set_option maxRecDepth 100000 in
set_option maxHeartbeats 4000000 in
theorem cx_A_rowWith (l : Launch) (hl : l.stackTraces = false) (D : va_G) (dA : Nat → ClassId) (base : Nat) (w : aw_W) (o : Option Nat) (p1 : Int32) (p2 : Int32) (p3 : Int32) (r : ((Option Nat) ⊕ String) × aw_W) (hm : f_A_rowWith w o p1 p2 p3 = some r) : aj_Cx l D dA base m_A_rowWith rm_A_rowWith [aRf o, aI p1, aI p2, aI p3] w (fun v w' => ∃ x, r.1 = .inl x ∧ some (aRf x) = v ∧ r.2 = w') (fun E w' => r.1 = .inr E ∧ r.2 = w') := by
  refine aj_enterX hl (by decide) (Nat.le_of_ble_eq_true rfl) ?_
  intro Γ G F
  unfold f_A_rowWith at hm
  refine j_aload_n G d_A_rowWith_0 rfl ?_
  obtain ⟨v1, hv1, hm⟩ := Option.bind_eq_some_iff.mp hm
  refine j_gR G d_A_rowWith_1 fl_A_10 hv1 ?_
  refine j_iload_n G d_A_rowWith_4 rfl ?_
  obtain ⟨v2, hv2, hm⟩ := Option.bind_eq_some_iff.mp hm
  obtain ⟨v3, hv3, hm⟩ := Option.bind_eq_some_iff.mp hm
  refine j_callV (As := [aI p1]) G d_A_rowWith_5 (c_S_at _ G.off _ _ _ _ _ _ _ hv3) mw_S_at mi_S_at lk_A_127 rfl hv2 rfl rfl (Nat.le_of_ble_eq_true rfl) ⟨by decide, by decide⟩ ⟨by decide, by decide⟩ (fun v9 w9 hp => ?_)
  obtain ⟨rfl, rfl⟩ := hp
  refine j_astore G d_A_rowWith_8 (by decide) ?_
  refine j_aload G d_A_rowWith_10 rfl ?_
  refine j_ifnonnull (tgt := 25) G d_A_rowWith_12 rfl (fun hc => ?_) (fun hc => ?_)
  · rw [if_neg hc] at hm
    refine j_iload_n G d_A_rowWith_25 rfl ?_
    obtain ⟨j4, hj4, ho4⟩ := Option.bind_eq_some_iff.mp hm
    clear hm
    have hJ4 : aj_J Γ 6 (0, 0) 42 [(2, aI p2)] [aRf j4] w := by
      clear hj4
      have hm := ho4
      clear ho4
      refine j_astore G d_A_rowWith_42 (by decide) ?_
      refine j_aload G d_A_rowWith_44 rfl ?_
      refine j_iload_n G d_A_rowWith_46 rfl ?_
      obtain ⟨v5, hv5, hm⟩ := Option.bind_eq_some_iff.mp hm
      obtain ⟨v6, hv6, hm⟩ := Option.bind_eq_some_iff.mp hm
      refine j_callV (As := [aI p2]) G d_A_rowWith_47 (c_O_has _ G.off _ _ _ _ _ _ _ hv6) mw_O_has mi_O_has lk_A_206 rfl hv5 rfl rfl (Nat.le_of_ble_eq_true rfl) ⟨by decide, by decide⟩ ⟨by decide, by decide⟩ (fun v9 w9 hp => ?_)
      obtain ⟨rfl, rfl⟩ := hp
      refine j_if_ne (tgt := 63) G d_A_rowWith_50 rfl (fun hc => ?_) (fun hc => ?_)
      · rw [if_neg hc] at hm
        refine j_aload G d_A_rowWith_63 rfl ?_
        obtain rfl := Option.some.inj hm
        exact j_aret G F.fin d_A_rowWith_65 ⟨by decide, by decide⟩ ⟨_, rfl, rfl, rfl⟩
      · rw [if_pos hc] at hm
        obtain rfl := Option.some.inj hm
        exact j_throw (cls := "java/lang/IllegalArgumentException") (text := "there is no such byte") (Y := "java/lang/RuntimeException") (names := ["java/lang/Exception"]) (ix := 7) (bs := Bundle.six) G F (by decide +kernel) (by decide +kernel) (by decide +kernel) (by decide +kernel) (by decide +kernel) (by decide +kernel) (by decide +kernel) wd_2_85 wd_1_12 (by decide) ta_A_170 d_A_rowWith_53 d_A_rowWith_56 d_A_rowWith_57 d_A_rowWith_59 d_A_rowWith_62 ⟨by decide, Nat.le_of_ble_eq_true rfl⟩ ⟨by decide, by decide⟩ ⟨rfl, rfl⟩
    clear ho4
    have hm := hj4
    clear hj4
    refine j_if_eq (tgt := 37) G d_A_rowWith_26 rfl (fun hc => ?_) (fun hc => ?_)
    · rw [if_pos hc] at hm
      refine j_aload G d_A_rowWith_37 rfl ?_
      obtain ⟨v7, hv7, hm⟩ := Option.bind_eq_some_iff.mp hm
      obtain ⟨v8, hv8, hm⟩ := Option.bind_eq_some_iff.mp hm
      refine j_callV (As := []) G d_A_rowWith_39 (c_F_bytes _ G.off _ _ _ _ _ _ hv8) mw_F_bytes mi_F_bytes lk_A_173 rfl hv7 rfl rfl (Nat.le_of_ble_eq_true rfl) ⟨by decide, by decide⟩ ⟨by decide, by decide⟩ (fun v9 w9 hp => ?_)
      obtain ⟨rfl, rfl⟩ := hp
      obtain rfl := Option.some.inj hm
      refine j_lv [(2, aI p2)] rfl ?_
      exact hJ4
    · rw [if_neg hc] at hm
      refine j_aload G d_A_rowWith_29 rfl ?_
      obtain ⟨v9, hv9, hm⟩ := Option.bind_eq_some_iff.mp hm
      obtain ⟨v10, hv10, hm⟩ := Option.bind_eq_some_iff.mp hm
      refine j_callV (As := []) G d_A_rowWith_31 (c_F_hint _ G.off _ _ _ _ _ _ hv10) mw_F_hint mi_F_hint lk_A_188 rfl hv9 rfl rfl (Nat.le_of_ble_eq_true rfl) ⟨by decide, by decide⟩ ⟨by decide, by decide⟩ (fun v9 w9 hp => ?_)
      obtain ⟨rfl, rfl⟩ := hp
      refine j_goto (tgt := 42) G d_A_rowWith_34 rfl ?_
      obtain rfl := Option.some.inj hm
      refine j_lv [(2, aI p2)] rfl ?_
      exact hJ4
  · rw [if_pos hc] at hm
    obtain rfl := Option.some.inj hm
    exact j_throw (cls := "java/lang/IllegalArgumentException") (text := "there is no such file") (Y := "java/lang/RuntimeException") (names := ["java/lang/Exception"]) (ix := 7) (bs := Bundle.six) G F (by decide +kernel) (by decide +kernel) (by decide +kernel) (by decide +kernel) (by decide +kernel) (by decide +kernel) (by decide +kernel) wd_2_85 wd_1_12 (by decide) ta_A_170 d_A_rowWith_15 d_A_rowWith_18 d_A_rowWith_19 d_A_rowWith_21 d_A_rowWith_24 ⟨by decide, Nat.le_of_ble_eq_true rfl⟩ ⟨by decide, by decide⟩ ⟨rfl, rfl⟩
noncomputable def f_A_octet (w : aw_W) (o : Option Nat) (p1 : Int32) (p2 : Int32) (p3 : Int32) : Option ((Int32 ⊕ String) × aw_W) :=
  (aw_obj w o 0).bind fun v1 =>
  (f_A_rowWith w o p1 p2 p3).bind fun v2 =>
  match v2.1 with
  | .inl x3 =>
    (aw_obj v2.2 x3 3).bind fun v4 =>
    (f_O_at v2.2 x3 p2).bind fun v5 =>
    some (.inl v5, v2.2)
  | .inr E9 => some (.inr E9, v2.2)
abbrev rm_A_octet : Room := { frames := 7, cells := 1, slots := 6, locals := 107 }
set_option maxRecDepth 100000 in
set_option maxHeartbeats 4000000 in
theorem cx_A_octet (l : Launch) (hl : l.stackTraces = false) (D : va_G) (dA : Nat → ClassId) (base : Nat) (w : aw_W) (o : Option Nat) (p1 : Int32) (p2 : Int32) (p3 : Int32) (r : (Int32 ⊕ String) × aw_W) (hm : f_A_octet w o p1 p2 p3 = some r) : aj_Cx l D dA base m_A_octet rm_A_octet [aRf o, aI p1, aI p2, aI p3] w (fun v w' => ∃ x, r.1 = .inl x ∧ some (aI x) = v ∧ r.2 = w') (fun E w' => r.1 = .inr E ∧ r.2 = w') := by
  refine aj_enterX hl (by decide) (Nat.le_of_ble_eq_true rfl) ?_
  intro Γ G F
  unfold f_A_octet at hm
  refine j_aload_n G d_A_octet_0 rfl ?_
  refine j_iload_n G d_A_octet_1 rfl ?_
  refine j_iload_n G d_A_octet_2 rfl ?_
  refine j_iload_n G d_A_octet_3 rfl ?_
  obtain ⟨v1, hv1, hm⟩ := Option.bind_eq_some_iff.mp hm
  obtain ⟨v2, hv2, hm⟩ := Option.bind_eq_some_iff.mp hm
  refine j_callVx (As := [aI p1, aI p2, aI p3]) G d_A_octet_4 (cx_A_rowWith _ G.off _ _ _ _ _ _ _ _ _ hv2) mw_A_rowWith mi_A_rowWith wd_3_232 rfl hv1 rfl rfl (Nat.le_of_ble_eq_true rfl) ⟨by decide, by decide⟩ ⟨by decide, by decide⟩ (fun v9 w9 hp => ?_) (fun E9 w9 hp => ?_)
  · obtain ⟨x3, hx9, rfl, rfl⟩ := hp
    rw [hx9] at hm
    dsimp only at hm
    refine j_iload_n G d_A_octet_7 rfl ?_
    obtain ⟨v4, hv4, hm⟩ := Option.bind_eq_some_iff.mp hm
    obtain ⟨v5, hv5, hm⟩ := Option.bind_eq_some_iff.mp hm
    refine j_callV (As := [aI p2]) G d_A_octet_8 (c_O_at _ G.off _ _ _ _ _ _ _ hv5) mw_O_at mi_O_at lk_A_195 rfl hv4 rfl rfl (Nat.le_of_ble_eq_true rfl) ⟨by decide, by decide⟩ ⟨by decide, by decide⟩ (fun v9 w9 hp => ?_)
    obtain ⟨rfl, rfl⟩ := hp
    obtain rfl := Option.some.inj hm
    exact j_iret G F.fin d_A_octet_11 ⟨by decide, by decide⟩ ⟨_, rfl, rfl, rfl⟩
  · obtain ⟨hx9, rfl⟩ := hp
    rw [hx9] at hm
    dsimp only at hm
    obtain rfl := Option.some.inj hm
    exact j_out G F ⟨by decide, by decide⟩ ⟨rfl, rfl⟩
noncomputable def f_A_spoil (w : aw_W) (o : Option Nat) (p1 : Int32) (p2 : Int32) (p3 : Int32) (p4 : Int32) : Option ((Unit ⊕ String) × aw_W) :=
  (aw_obj w o 0).bind fun v1 =>
  (f_A_rowWith w o p1 p2 p3).bind fun v2 =>
  match v2.1 with
  | .inl x3 =>
    (aw_obj v2.2 x3 3).bind fun v4 =>
    (f_O_at v2.2 x3 p2).bind fun v5 =>
    (aw_obj v2.2 x3 3).bind fun v6 =>
    (f_O_set v2.2 x3 p2 (v5 ^^^ p4)).bind fun v7 =>
    some (.inl (), v7)
  | .inr E9 => some (.inr E9, v2.2)
abbrev rm_A_spoil : Room := { frames := 7, cells := 1, slots := 6, locals := 107 }
set_option maxRecDepth 100000 in
set_option maxHeartbeats 4000000 in
theorem cx_A_spoil (l : Launch) (hl : l.stackTraces = false) (D : va_G) (dA : Nat → ClassId) (base : Nat) (w : aw_W) (o : Option Nat) (p1 : Int32) (p2 : Int32) (p3 : Int32) (p4 : Int32) (r : (Unit ⊕ String) × aw_W) (hm : f_A_spoil w o p1 p2 p3 p4 = some r) : aj_Cx l D dA base m_A_spoil rm_A_spoil [aRf o, aI p1, aI p2, aI p3, aI p4] w (fun v w' => ∃ x, r.1 = .inl x ∧ none = v ∧ r.2 = w') (fun E w' => r.1 = .inr E ∧ r.2 = w') := by
  refine aj_enterX hl (by decide) (Nat.le_of_ble_eq_true rfl) ?_
  intro Γ G F
  unfold f_A_spoil at hm
  refine j_aload_n G d_A_spoil_0 rfl ?_
  refine j_iload_n G d_A_spoil_1 rfl ?_
  refine j_iload_n G d_A_spoil_2 rfl ?_
  refine j_iload_n G d_A_spoil_3 rfl ?_
  obtain ⟨v1, hv1, hm⟩ := Option.bind_eq_some_iff.mp hm
  obtain ⟨v2, hv2, hm⟩ := Option.bind_eq_some_iff.mp hm
  refine j_callVx (As := [aI p1, aI p2, aI p3]) G d_A_spoil_4 (cx_A_rowWith _ G.off _ _ _ _ _ _ _ _ _ hv2) mw_A_rowWith mi_A_rowWith wd_3_232 rfl hv1 rfl rfl (Nat.le_of_ble_eq_true rfl) ⟨by decide, by decide⟩ ⟨by decide, by decide⟩ (fun v9 w9 hp => ?_) (fun E9 w9 hp => ?_)
  · obtain ⟨x3, hx9, rfl, rfl⟩ := hp
    rw [hx9] at hm
    dsimp only at hm
    refine j_astore G d_A_spoil_7 (by decide) ?_
    refine j_aload G d_A_spoil_9 rfl ?_
    refine j_iload_n G d_A_spoil_11 rfl ?_
    refine j_aload G d_A_spoil_12 rfl ?_
    refine j_iload_n G d_A_spoil_14 rfl ?_
    obtain ⟨v4, hv4, hm⟩ := Option.bind_eq_some_iff.mp hm
    obtain ⟨v5, hv5, hm⟩ := Option.bind_eq_some_iff.mp hm
    refine j_callV (As := [aI p2]) G d_A_spoil_15 (c_O_at _ G.off _ _ _ _ _ _ _ hv5) mw_O_at mi_O_at lk_A_195 rfl hv4 rfl rfl (Nat.le_of_ble_eq_true rfl) ⟨by decide, by decide⟩ ⟨by decide, by decide⟩ (fun v9 w9 hp => ?_)
    obtain ⟨rfl, rfl⟩ := hp
    refine j_iload G d_A_spoil_18 rfl ?_
    refine j_ixor G d_A_spoil_20 ?_
    obtain ⟨v6, hv6, hm⟩ := Option.bind_eq_some_iff.mp hm
    obtain ⟨v7, hv7, hm⟩ := Option.bind_eq_some_iff.mp hm
    refine j_callV (As := [aI p2, aI (v5 ^^^ p4)]) G d_A_spoil_21 (c_O_set _ G.off _ _ _ _ _ _ _ _ hv7) mw_O_set mi_O_set lk_A_198 rfl hv6 rfl rfl (Nat.le_of_ble_eq_true rfl) ⟨by decide, by decide⟩ ⟨by decide, by decide⟩ (fun v9 w9 hp => ?_)
    obtain ⟨rfl, rfl⟩ := hp
    obtain rfl := Option.some.inj hm
    exact j_vret G F.fin d_A_spoil_24 ⟨by decide, by decide⟩ ⟨_, rfl, rfl, rfl⟩
  · obtain ⟨hx9, rfl⟩ := hp
    rw [hx9] at hm
    dsimp only at hm
    obtain rfl := Option.some.inj hm
    exact j_out G F ⟨by decide, by decide⟩ ⟨rfl, rfl⟩
