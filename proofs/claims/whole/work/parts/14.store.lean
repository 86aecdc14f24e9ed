noncomputable def f_A_init (w : aw_W) (o : Option Nat) : Option (aw_W) :=
  (o).bind fun v1 =>
  (w.1).bind fun v2 =>
  (f_S_init (aw_add w v2 (.inr (5, [.null, .int 0, .null, .int 0]))) (some v2)).bind fun v3 =>
  (aw_pV v3 o 0 0 (va_rf (some v2))).bind fun v4 =>
  (v4.1).bind fun v5 =>
  (f_D_init (aw_add v4 v5 (.inr (1, [.null, .int 0]))) (some v5)).bind fun v6 =>
  (aw_pV v6 o 0 1 (va_rf (some v5))).bind fun v7 =>
  (v7.1).bind fun v8 =>
  (f_G_init (aw_add v7 v8 (.inr (2, [.null, .int 0, .int 0, .int 0, .int 0]))) (some v8)).bind fun v9 =>
  (aw_pV v9 o 0 2 (va_rf (some v8))).bind fun v10 =>
  (aw_pV v10 o 0 3 (.int (0 : Int32))).bind fun v11 =>
  (aw_pV v11 o 0 4 (.int (0 : Int32))).bind fun v12 =>
  some v12
abbrev rm_A_init : Room := { frames := 4, cells := 258, slots := 4135, locals := 75 }
set_option maxRecDepth 100000 in
set_option maxHeartbeats 4000000 in
theorem c_A_init (l : Launch) (hl : l.stackTraces = false) (D : va_G) (dA : Nat → ClassId) (base : Nat) (w : aw_W) (o : Option Nat) (r : aw_W) (hm : f_A_init w o = some r) : aj_Ct l D dA base m_A_init rm_A_init [aRf o] w (fun v w' => none = v ∧ r = w') := by
  refine aj_enter hl (by decide) (Nat.le_of_ble_eq_true rfl) ?_
  intro Γ G E
  unfold f_A_init at hm
  refine j_aload_n G d_A_init_0 rfl ?_
  obtain ⟨v1, hv1, hm⟩ := Option.bind_eq_some_iff.mp hm
  refine j_objInitR G d_A_init_1 wd_1_23 wd_1_24 wd_1_25 ⟨by decide, Nat.le_of_ble_eq_true rfl⟩ hv1 ?_
  refine j_aload_n G d_A_init_4 rfl ?_
  obtain ⟨v2, hv2, hm⟩ := Option.bind_eq_some_iff.mp hm
  refine j_new (ci := 5) (fs := [.null, .int 0, .null, .int 0]) aY_S G d_A_init_5 rfl aY_S_ok au_S wd_1_26 wd_1_27 wd_1_2 hv2 (by decide) ⟨by decide, by decide⟩ ?_
  refine j_dup G d_A_init_8 rfl ?_
  obtain ⟨v3, hv3, hm⟩ := Option.bind_eq_some_iff.mp hm
  refine j_callI (As := []) G d_A_init_9 (c_S_init _ G.off _ _ _ _ _ _ hv3) rfl rfl mw_S_init mn_S_init lk_A_9 rfl rfl (Nat.le_of_ble_eq_true rfl) ⟨by decide, by decide⟩ ⟨by decide, by decide⟩ (fun v9 w9 hp => ?_)
  obtain ⟨rfl, rfl⟩ := hp
  obtain ⟨v4, hv4, hm⟩ := Option.bind_eq_some_iff.mp hm
  refine j_pF (ty := aY_A 0) G d_A_init_12 fl_A_10 ac_A (aw_T_of_A 0 (by decide) rfl) rfl rfl (by rintro _ _ _ ⟨⟩; exact wd_1_154) (aw_nR _ _) (aw_fR _ _) hv4 ?_
  refine j_aload_n G d_A_init_15 rfl ?_
  obtain ⟨v5, hv5, hm⟩ := Option.bind_eq_some_iff.mp hm
  refine j_new (ci := 1) (fs := [.null, .int 0]) aY_D G d_A_init_16 rfl aY_D_ok au_D wd_1_116 wd_1_117 wd_1_6 hv5 (by decide) ⟨by decide, by decide⟩ ?_
  refine j_dup G d_A_init_19 rfl ?_
  obtain ⟨v6, hv6, hm⟩ := Option.bind_eq_some_iff.mp hm
  refine j_callI (As := []) G d_A_init_20 (c_D_init _ G.off _ _ _ _ _ _ hv6) rfl rfl mw_D_init mn_D_init lk_A_18 rfl rfl (Nat.le_of_ble_eq_true rfl) ⟨by decide, by decide⟩ ⟨by decide, by decide⟩ (fun v9 w9 hp => ?_)
  obtain ⟨rfl, rfl⟩ := hp
  obtain ⟨v7, hv7, hm⟩ := Option.bind_eq_some_iff.mp hm
  refine j_pF (ty := aY_A 1) G d_A_init_23 fl_A_19 ac_A (aw_T_of_A 1 (by decide) rfl) rfl rfl (by rintro _ _ _ ⟨⟩; exact wd_1_155) (aw_nR _ _) (aw_fR _ _) hv7 ?_
  refine j_aload_n G d_A_init_26 rfl ?_
  obtain ⟨v8, hv8, hm⟩ := Option.bind_eq_some_iff.mp hm
  refine j_new (ci := 2) (fs := [.null, .int 0, .int 0, .int 0, .int 0]) aY_G G d_A_init_27 rfl aY_G_ok au_G wd_1_130 wd_1_131 wd_1_7 hv8 (by decide) ⟨by decide, by decide⟩ ?_
  refine j_dup G d_A_init_30 rfl ?_
  obtain ⟨v9, hv9, hm⟩ := Option.bind_eq_some_iff.mp hm
  refine j_callI (As := []) G d_A_init_31 (c_G_init _ G.off _ _ _ _ _ _ hv9) rfl rfl mw_G_init mn_G_init lk_A_25 rfl rfl (Nat.le_of_ble_eq_true rfl) ⟨by decide, by decide⟩ ⟨by decide, by decide⟩ (fun v9 w9 hp => ?_)
  obtain ⟨rfl, rfl⟩ := hp
  obtain ⟨v10, hv10, hm⟩ := Option.bind_eq_some_iff.mp hm
  refine j_pF (ty := aY_A 2) G d_A_init_34 fl_A_26 ac_A (aw_T_of_A 2 (by decide) rfl) rfl rfl (by rintro _ _ _ ⟨⟩; exact wd_1_156) (aw_nR _ _) (aw_fR _ _) hv10 ?_
  refine j_aload_n G d_A_init_37 rfl ?_
  refine j_iconst (v := 0) G d_A_init_38 (by decide) ?_
  obtain ⟨v11, hv11, hm⟩ := Option.bind_eq_some_iff.mp hm
  refine j_pV (ty := aY_A 3) G d_A_init_39 fl_A_30 ac_A (aw_T_of_A 3 (by decide) rfl) rfl rfl hv11 ?_
  refine j_aload_n G d_A_init_42 rfl ?_
  refine j_iconst (v := 0) G d_A_init_43 (by decide) ?_
  obtain ⟨v12, hv12, hm⟩ := Option.bind_eq_some_iff.mp hm
  refine j_pV (ty := aY_A 4) G d_A_init_44 fl_A_34 ac_A (aw_T_of_A 4 (by decide) rfl) (by decide) (by decide) hv12 ?_
  obtain rfl := Option.some.inj hm
  exact j_vret G E d_A_init_47 ⟨by decide, by decide⟩ ⟨rfl, rfl⟩
noncomputable def f_A_enter (w : aw_W) (o : Option Nat) (p1 : Option Nat) : Option (aw_W) :=
  (aw_wh (σ := Int32 × aw_W) (τ := Int32 × aw_W) (fun s1 =>
    (aw_obj s1.2 p1 6).bind fun v2 =>
    (f_F_recordCount s1.2 p1).bind fun v3 =>
    if v3 ≤ s1.1 then
      some (.inr (s1.1, s1.2))
    else
      (aw_obj s1.2 p1 6).bind fun v4 =>
      (f_F_record s1.2 p1 s1.1).bind fun v5 =>
      (if v5 = none then
          some s1.2
        else
          (aw_gR s1.2 o 0 1).bind fun v6 =>
          (aw_obj s1.2 v6 1).bind fun v7 =>
          (f_D_enter s1.2 v6 v5).bind fun v8 =>
          some v8 : Option (aw_W)).bind fun j9 =>
      some (.inl (s1.1 + 1, j9))) ((0 : Int32), w)).bind fun e10 =>
  some e10.2
abbrev rm_A_enter : Room := { frames := 2, cells := 0, slots := 0, locals := 47 }
set_option maxRecDepth 100000 in
set_option maxHeartbeats 4000000 in
theorem c_A_enter (l : Launch) (hl : l.stackTraces = false) (D : va_G) (dA : Nat → ClassId) (base : Nat) (w : aw_W) (o : Option Nat) (p1 : Option Nat) (r : aw_W) (hm : f_A_enter w o p1 = some r) : aj_Ct l D dA base m_A_enter rm_A_enter [aRf o, aRf p1] w (fun v w' => none = v ∧ r = w') := by
  refine aj_enter hl (by decide) (Nat.le_of_ble_eq_true rfl) ?_
  intro Γ G E
  unfold f_A_enter at hm
  refine j_iconst (v := 0) G d_A_enter_0 (by decide) ?_
  refine j_istore_n G d_A_enter_1 (by decide) ?_
  obtain ⟨e1, he1, ho1⟩ := Option.bind_eq_some_iff.mp hm
  clear hm
  refine j_lv [(0, aRf o), (1, aRf p1), (2, aI (0 : Int32))] rfl ?_
  refine aw_wh_elim (fun (s : Int32 × aw_W) => aj_J Γ 4 (0, 0) 2 [(0, aRf o), (1, aRf p1), (2, aI s.1)] [] s.2) ?_ he1
  intro s1 x1 hm hin1 hout1
  try dsimp only at hm ⊢
  refine j_iload_n G d_A_enter_2 rfl ?_
  refine j_aload_n G d_A_enter_3 rfl ?_
  obtain ⟨v2, hv2, hm⟩ := Option.bind_eq_some_iff.mp hm
  obtain ⟨v3, hv3, hm⟩ := Option.bind_eq_some_iff.mp hm
  refine j_callV (As := []) G d_A_enter_4 (c_F_recordCount _ G.off _ _ _ _ _ _ hv3) mw_F_recordCount mi_F_recordCount lk_A_228 rfl hv2 rfl rfl (Nat.le_of_ble_eq_true rfl) ⟨by decide, by decide⟩ ⟨by decide, by decide⟩ (fun v9 w9 hp => ?_)
  obtain ⟨rfl, rfl⟩ := hp
  refine j_icmp_ge (tgt := 34) G d_A_enter_7 rfl (fun hc => ?_) (fun hc => ?_)
  · rw [if_pos hc] at hm
    have q1 := hout1 _ (Option.some.inj hm).symm
    clear hin1 hout1
    subst q1
    clear hm
    have hm := ho1
    clear ho1
    try dsimp only at hm
    obtain rfl := Option.some.inj hm
    exact j_vret G E d_A_enter_34 ⟨by decide, by decide⟩ ⟨rfl, rfl⟩
  · rw [if_neg hc] at hm
    refine j_aload_n G d_A_enter_10 rfl ?_
    refine j_iload_n G d_A_enter_11 rfl ?_
    obtain ⟨v4, hv4, hm⟩ := Option.bind_eq_some_iff.mp hm
    obtain ⟨v5, hv5, hm⟩ := Option.bind_eq_some_iff.mp hm
    refine j_callV (As := [aI s1.1]) G d_A_enter_12 (c_F_record _ G.off _ _ _ _ _ _ _ hv5) mw_F_record mi_F_record lk_A_231 rfl hv4 rfl rfl (Nat.le_of_ble_eq_true rfl) ⟨by decide, by decide⟩ ⟨by decide, by decide⟩ (fun v9 w9 hp => ?_)
    obtain ⟨rfl, rfl⟩ := hp
    refine j_astore_n G d_A_enter_15 (by decide) ?_
    refine j_aload_n G d_A_enter_16 rfl ?_
    obtain ⟨j6, hj6, ho6⟩ := Option.bind_eq_some_iff.mp hm
    clear hm
    have hJ6 : aj_J Γ 4 (0, 0) 28 [(0, aRf o), (1, aRf p1), (2, aI s1.1)] [] j6 := by
      clear hj6
      have hm := ho6
      clear ho6
      refine j_iinc (v := s1.1 + 1) G d_A_enter_28 rfl (by first | rfl | decide) (by decide) ?_
      refine j_goto (tgt := 2) G d_A_enter_31 rfl ?_
      refine j_lv [(0, aRf o), (1, aRf p1), (2, aI (s1.1 + 1))] rfl ?_
      have z9 := hin1 _ (Option.some.inj hm).symm
      exact z9
    clear ho6
    have hm := hj6
    clear hj6
    refine j_ifnull (tgt := 28) G d_A_enter_17 rfl (fun hc => ?_) (fun hc => ?_)
    · rw [if_pos hc] at hm
      obtain rfl := Option.some.inj hm
      refine j_lv [(0, aRf o), (1, aRf p1), (2, aI s1.1)] rfl ?_
      exact hJ6
    · rw [if_neg hc] at hm
      refine j_aload_n G d_A_enter_20 rfl ?_
      obtain ⟨v7, hv7, hm⟩ := Option.bind_eq_some_iff.mp hm
      refine j_gR G d_A_enter_21 fl_A_19 hv7 ?_
      refine j_aload_n G d_A_enter_24 rfl ?_
      obtain ⟨v8, hv8, hm⟩ := Option.bind_eq_some_iff.mp hm
      obtain ⟨v9, hv9, hm⟩ := Option.bind_eq_some_iff.mp hm
      refine j_callV (As := [aRf v5]) G d_A_enter_25 (c_D_enter _ G.off _ _ _ _ _ _ _ hv9) mw_D_enter mi_D_enter lk_A_224 rfl hv8 rfl rfl (Nat.le_of_ble_eq_true rfl) ⟨by decide, by decide⟩ ⟨by decide, by decide⟩ (fun v9 w9 hp => ?_)
      obtain ⟨rfl, rfl⟩ := hp
      obtain rfl := Option.some.inj hm
      refine j_lv [(0, aRf o), (1, aRf p1), (2, aI s1.1)] rfl ?_
      exact hJ6
noncomputable def f_A_open (w : aw_W) (o : Option Nat) (p1 : Int32) : Option (Int32 × aw_W) :=
  (aw_gR w o 0 2).bind fun v1 =>
  (aw_obj w v1 2).bind fun v2 =>
  (f_G_drop w v1).bind fun v3 =>
  (aw_gR v3 o 0 1).bind fun v4 =>
  (aw_obj v3 v4 1).bind fun v5 =>
  (f_D_clear v3 v4).bind fun v6 =>
  (aw_gR v6 o 0 0).bind fun v7 =>
  (aw_obj v6 v7 5).bind fun v8 =>
  (f_S_sealActive v6 v7).bind fun v9 =>
  (aw_wh (σ := Int32 × aw_W) (τ := Int32 × aw_W) (fun s10 =>
    (aw_gR s10.2 o 0 0).bind fun v11 =>
    (aw_obj s10.2 v11 5).bind fun v12 =>
    (f_S_count s10.2 v11).bind fun v13 =>
    if v13 ≤ s10.1 then
      some (.inr (s10.1, s10.2))
    else
      (aw_gR s10.2 o 0 0).bind fun v14 =>
      (aw_obj s10.2 v14 5).bind fun v15 =>
      (f_S_at s10.2 v14 s10.1).bind fun v16 =>
      (if v16 = none then
          some s10.2
        else
          (aw_obj s10.2 v16 6).bind fun v17 =>
          (f_F_learn s10.2 v16 p1).bind fun v18 =>
          (aw_obj v18 o 0).bind fun v19 =>
          (f_A_enter v18 o v16).bind fun v20 =>
          some v20 : Option (aw_W)).bind fun j21 =>
      some (.inl (s10.1 + 1, j21))) ((0 : Int32), v9)).bind fun e22 =>
  (aw_pV e22.2 o 0 4 (.int (0 : Int32))).bind fun v23 =>
  (aw_gR v23 o 0 1).bind fun v24 =>
  (aw_obj v23 v24 1).bind fun v25 =>
  (f_D_count v23 v24).bind fun v26 =>
  some (v26, v23)
abbrev rm_A_open : Room := { frames := 6, cells := 0, slots := 0, locals := 140 }
set_option maxRecDepth 100000 in
set_option maxHeartbeats 4000000 in
theorem c_A_open (l : Launch) (hl : l.stackTraces = false) (D : va_G) (dA : Nat → ClassId) (base : Nat) (w : aw_W) (o : Option Nat) (p1 : Int32) (r : Int32 × aw_W) (hm : f_A_open w o p1 = some r) : aj_Ct l D dA base m_A_open rm_A_open [aRf o, aI p1] w (fun v w' => some (aI r.1) = v ∧ r.2 = w') := by
  refine aj_enter hl (by decide) (Nat.le_of_ble_eq_true rfl) ?_
  intro Γ G E
  unfold f_A_open at hm
  refine j_aload_n G d_A_open_0 rfl ?_
  obtain ⟨v1, hv1, hm⟩ := Option.bind_eq_some_iff.mp hm
  refine j_gR G d_A_open_1 fl_A_26 hv1 ?_
  obtain ⟨v2, hv2, hm⟩ := Option.bind_eq_some_iff.mp hm
  obtain ⟨v3, hv3, hm⟩ := Option.bind_eq_some_iff.mp hm
  refine j_callV (As := []) G d_A_open_4 (c_G_drop _ G.off _ _ _ _ _ _ hv3) mw_G_drop mi_G_drop lk_A_117 rfl hv2 rfl rfl (Nat.le_of_ble_eq_true rfl) ⟨by decide, by decide⟩ ⟨by decide, by decide⟩ (fun v9 w9 hp => ?_)
  obtain ⟨rfl, rfl⟩ := hp
  refine j_aload_n G d_A_open_7 rfl ?_
  obtain ⟨v4, hv4, hm⟩ := Option.bind_eq_some_iff.mp hm
  refine j_gR G d_A_open_8 fl_A_19 hv4 ?_
  obtain ⟨v5, hv5, hm⟩ := Option.bind_eq_some_iff.mp hm
  obtain ⟨v6, hv6, hm⟩ := Option.bind_eq_some_iff.mp hm
  refine j_callV (As := []) G d_A_open_11 (c_D_clear _ G.off _ _ _ _ _ _ hv6) mw_D_clear mi_D_clear lk_A_120 rfl hv5 rfl rfl (Nat.le_of_ble_eq_true rfl) ⟨by decide, by decide⟩ ⟨by decide, by decide⟩ (fun v9 w9 hp => ?_)
  obtain ⟨rfl, rfl⟩ := hp
  refine j_aload_n G d_A_open_14 rfl ?_
  obtain ⟨v7, hv7, hm⟩ := Option.bind_eq_some_iff.mp hm
  refine j_gR G d_A_open_15 fl_A_10 hv7 ?_
  obtain ⟨v8, hv8, hm⟩ := Option.bind_eq_some_iff.mp hm
  obtain ⟨v9, hv9, hm⟩ := Option.bind_eq_some_iff.mp hm
  refine j_callV (As := []) G d_A_open_18 (c_S_sealActive _ G.off _ _ _ _ _ _ hv9) mw_S_sealActive mi_S_sealActive lk_A_123 rfl hv8 rfl rfl (Nat.le_of_ble_eq_true rfl) ⟨by decide, by decide⟩ ⟨by decide, by decide⟩ (fun v9 w9 hp => ?_)
  obtain ⟨rfl, rfl⟩ := hp
  refine j_iconst (v := 0) G d_A_open_21 (by decide) ?_
  refine j_istore_n G d_A_open_22 (by decide) ?_
  obtain ⟨e10, he10, ho10⟩ := Option.bind_eq_some_iff.mp hm
  clear hm
  refine j_lv [(0, aRf o), (1, aI p1), (2, aI (0 : Int32))] rfl ?_
  refine aw_wh_elim (fun (s : Int32 × aw_W) => aj_J Γ 4 (0, 0) 23 [(0, aRf o), (1, aI p1), (2, aI s.1)] [] s.2) ?_ he10
  intro s10 x10 hm hin10 hout10
  try dsimp only at hm ⊢
  refine j_iload_n G d_A_open_23 rfl ?_
  refine j_aload_n G d_A_open_24 rfl ?_
  obtain ⟨v11, hv11, hm⟩ := Option.bind_eq_some_iff.mp hm
  refine j_gR G d_A_open_25 fl_A_10 hv11 ?_
  obtain ⟨v12, hv12, hm⟩ := Option.bind_eq_some_iff.mp hm
  obtain ⟨v13, hv13, hm⟩ := Option.bind_eq_some_iff.mp hm
  refine j_callV (As := []) G d_A_open_28 (c_S_count _ G.off _ _ _ _ _ _ hv13) mw_S_count mi_S_count lk_A_126 rfl hv12 rfl rfl (Nat.le_of_ble_eq_true rfl) ⟨by decide, by decide⟩ ⟨by decide, by decide⟩ (fun v9 w9 hp => ?_)
  obtain ⟨rfl, rfl⟩ := hp
  refine j_icmp_ge (tgt := 63) G d_A_open_31 rfl (fun hc => ?_) (fun hc => ?_)
  · rw [if_pos hc] at hm
    have q10 := hout10 _ (Option.some.inj hm).symm
    clear hin10 hout10
    subst q10
    clear hm
    have hm := ho10
    clear ho10
    try dsimp only at hm
    refine j_aload_n G d_A_open_63 rfl ?_
    refine j_iconst (v := 0) G d_A_open_64 (by decide) ?_
    obtain ⟨v14, hv14, hm⟩ := Option.bind_eq_some_iff.mp hm
    refine j_pV (ty := aY_A 4) G d_A_open_65 fl_A_34 ac_A (aw_T_of_A 4 (by decide) rfl) (by decide) (by decide) hv14 ?_
    refine j_aload_n G d_A_open_68 rfl ?_
    obtain ⟨v15, hv15, hm⟩ := Option.bind_eq_some_iff.mp hm
    refine j_gR G d_A_open_69 fl_A_19 hv15 ?_
    obtain ⟨v16, hv16, hm⟩ := Option.bind_eq_some_iff.mp hm
    obtain ⟨v17, hv17, hm⟩ := Option.bind_eq_some_iff.mp hm
    refine j_callV (As := []) G d_A_open_72 (c_D_count _ G.off _ _ _ _ _ _ hv17) mw_D_count mi_D_count lk_A_83 rfl hv16 rfl rfl (Nat.le_of_ble_eq_true rfl) ⟨by decide, by decide⟩ ⟨by decide, by decide⟩ (fun v9 w9 hp => ?_)
    obtain ⟨rfl, rfl⟩ := hp
    obtain rfl := Option.some.inj hm
    exact j_iret G E d_A_open_75 ⟨by decide, by decide⟩ ⟨rfl, rfl⟩
  · rw [if_neg hc] at hm
    refine j_aload_n G d_A_open_34 rfl ?_
    obtain ⟨v18, hv18, hm⟩ := Option.bind_eq_some_iff.mp hm
    refine j_gR G d_A_open_35 fl_A_10 hv18 ?_
    refine j_iload_n G d_A_open_38 rfl ?_
    obtain ⟨v19, hv19, hm⟩ := Option.bind_eq_some_iff.mp hm
    obtain ⟨v20, hv20, hm⟩ := Option.bind_eq_some_iff.mp hm
    refine j_callV (As := [aI s10.1]) G d_A_open_39 (c_S_at _ G.off _ _ _ _ _ _ _ hv20) mw_S_at mi_S_at lk_A_127 rfl hv19 rfl rfl (Nat.le_of_ble_eq_true rfl) ⟨by decide, by decide⟩ ⟨by decide, by decide⟩ (fun v9 w9 hp => ?_)
    obtain ⟨rfl, rfl⟩ := hp
    refine j_astore_n G d_A_open_42 (by decide) ?_
    refine j_aload_n G d_A_open_43 rfl ?_
    obtain ⟨j21, hj21, ho21⟩ := Option.bind_eq_some_iff.mp hm
    clear hm
    have hJ21 : aj_J Γ 4 (0, 0) 57 [(0, aRf o), (1, aI p1), (2, aI s10.1)] [] j21 := by
      clear hj21
      have hm := ho21
      clear ho21
      refine j_iinc (v := s10.1 + 1) G d_A_open_57 rfl (by first | rfl | decide) (by decide) ?_
      refine j_goto (tgt := 23) G d_A_open_60 rfl ?_
      refine j_lv [(0, aRf o), (1, aI p1), (2, aI (s10.1 + 1))] rfl ?_
      have z9 := hin10 _ (Option.some.inj hm).symm
      exact z9
    clear ho21
    have hm := hj21
    clear hj21
    refine j_ifnull (tgt := 57) G d_A_open_44 rfl (fun hc => ?_) (fun hc => ?_)
    · rw [if_pos hc] at hm
      obtain rfl := Option.some.inj hm
      refine j_lv [(0, aRf o), (1, aI p1), (2, aI s10.1)] rfl ?_
      exact hJ21
    · rw [if_neg hc] at hm
      refine j_aload_n G d_A_open_47 rfl ?_
      refine j_iload_n G d_A_open_48 rfl ?_
      obtain ⟨v22, hv22, hm⟩ := Option.bind_eq_some_iff.mp hm
      obtain ⟨v23, hv23, hm⟩ := Option.bind_eq_some_iff.mp hm
      refine j_callV (As := [aI p1]) G d_A_open_49 (c_F_learn _ G.off _ _ _ _ _ _ _ hv23) mw_F_learn mi_F_learn lk_A_130 rfl hv22 rfl rfl (Nat.le_of_ble_eq_true rfl) ⟨by decide, by decide⟩ ⟨by decide, by decide⟩ (fun v9 w9 hp => ?_)
      obtain ⟨rfl, rfl⟩ := hp
      refine j_aload_n G d_A_open_52 rfl ?_
      refine j_aload_n G d_A_open_53 rfl ?_
      obtain ⟨v24, hv24, hm⟩ := Option.bind_eq_some_iff.mp hm
      obtain ⟨v25, hv25, hm⟩ := Option.bind_eq_some_iff.mp hm
      refine j_callV (As := [aRf v20]) G d_A_open_54 (c_A_enter _ G.off _ _ _ _ _ _ _ hv25) mw_A_enter mi_A_enter lk_A_136 rfl hv24 rfl rfl (Nat.le_of_ble_eq_true rfl) ⟨by decide, by decide⟩ ⟨by decide, by decide⟩ (fun v9 w9 hp => ?_)
      obtain ⟨rfl, rfl⟩ := hp
      obtain rfl := Option.some.inj hm
      refine j_lv [(0, aRf o), (1, aI p1), (2, aI s10.1)] rfl ?_
      exact hJ21
noncomputable def f_A_files (w : aw_W) (o : Option Nat) : Option (Int32) :=
  (aw_gR w o 0 0).bind fun v1 =>
  (aw_obj w v1 5).bind fun v2 =>
  (f_S_count w v1).bind fun v3 =>
  some v3
abbrev rm_A_files : Room := { frames := 1, cells := 0, slots := 0, locals := 20 }
set_option maxRecDepth 100000 in
set_option maxHeartbeats 4000000 in
theorem c_A_files (l : Launch) (hl : l.stackTraces = false) (D : va_G) (dA : Nat → ClassId) (base : Nat) (w : aw_W) (o : Option Nat) (r : Int32) (hm : f_A_files w o = some r) : aj_Ct l D dA base m_A_files rm_A_files [aRf o] w (fun v w' => some (aI r) = v ∧ w = w') := by
  refine aj_enter hl (by decide) (Nat.le_of_ble_eq_true rfl) ?_
  intro Γ G E
  unfold f_A_files at hm
  refine j_aload_n G d_A_files_0 rfl ?_
  obtain ⟨v1, hv1, hm⟩ := Option.bind_eq_some_iff.mp hm
  refine j_gR G d_A_files_1 fl_A_10 hv1 ?_
  obtain ⟨v2, hv2, hm⟩ := Option.bind_eq_some_iff.mp hm
  obtain ⟨v3, hv3, hm⟩ := Option.bind_eq_some_iff.mp hm
  refine j_callV (As := []) G d_A_files_4 (c_S_count _ G.off _ _ _ _ _ _ hv3) mw_S_count mi_S_count lk_A_126 rfl hv2 rfl rfl (Nat.le_of_ble_eq_true rfl) ⟨by decide, by decide⟩ ⟨by decide, by decide⟩ (fun v9 w9 hp => ?_)
  obtain ⟨rfl, rfl⟩ := hp
  obtain rfl := Option.some.inj hm
  exact j_iret G E d_A_files_7 ⟨by decide, by decide⟩ ⟨rfl, rfl⟩
