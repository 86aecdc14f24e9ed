noncomputable def f_S_init (w : aw_W) (o : Option Nat) : Option (aw_W) :=
  (o).bind fun v1 =>
  (w.1).bind fun v2 =>
  (aw_pV (aw_add w v2 (.inl (5, 6, .inr (.inr (.inr (.inr (fun _ => none))))))) o 5 0 (va_rf (some v2))).bind fun v3 =>
  (aw_wh (σ := Int32 × aw_W) (τ := Int32 × aw_W) (fun s4 =>
    (aw_le s4.1 6).bind fun _ =>
    (aw_gR s4.2 o 5 0).bind fun v5 =>
    (aw_len s4.2 v5 5).bind fun v6 =>
    if v6 ≤ s4.1 then
      some (.inr (s4.1, s4.2))
    else
      (aw_succ s4.1 6).bind fun _ =>
      (aw_gR s4.2 o 5 0).bind fun v7 =>
      (s4.2.1).bind fun v8 =>
      (f_F_init (aw_add s4.2 v8 (.inr (6, [.null, .null, .null, .int 0, .int 0, .int 0]))) (some v8)).bind fun v9 =>
      (aw_obj v9 (some v8) 6).bind fun v10 =>
      (aw_sR v9 v7 5 s4.1 (some v8)).bind fun v11 =>
      some (.inl (s4.1 + 1, v11))) ((0 : Int32), v3)).bind fun e12 =>
  (aw_pV e12.2 o 5 1 (.int (0 : Int32))).bind fun v13 =>
  (aw_pV v13 o 5 2 (va_rf none)).bind fun v14 =>
  (aw_pV v14 o 5 3 (.int (0 : Int32))).bind fun v15 =>
  some v15
abbrev rm_S_init : Room := { frames := 3, cells := 127, slots := 2029, locals := 54 }
set_option maxRecDepth 100000 in
set_option maxHeartbeats 4000000 in
theorem c_S_init (l : Launch) (hl : l.stackTraces = false) (D : va_G) (dA : Nat → ClassId) (base : Nat) (w : aw_W) (o : Option Nat) (r : aw_W) (hm : f_S_init w o = some r) : aj_Ct l D dA base m_S_init rm_S_init [aRf o] w (fun v w' => none = v ∧ r = w') := by
  refine aj_enter hl (by decide) (Nat.le_of_ble_eq_true rfl) ?_
  intro Γ G E
  unfold f_S_init at hm
  refine j_aload_n G d_S_init_0 rfl ?_
  obtain ⟨v1, hv1, hm⟩ := Option.bind_eq_some_iff.mp hm
  refine j_objInitR G d_S_init_1 wd_1_31 wd_1_24 wd_1_25 ⟨by decide, Nat.le_of_ble_eq_true rfl⟩ hv1 ?_
  refine j_aload_n G d_S_init_4 rfl ?_
  refine j_bipush (v := 6) G d_S_init_5 (by decide) ?_
  obtain ⟨v2, hv2, hm⟩ := Option.bind_eq_some_iff.mp hm
  refine j_anew (t := 5) (N := 6) (C := "AppendStore$StoreFile") G d_S_init_7 wd_1_32 wd_1_33 rfl (by decide) (by decide) (by decide) hv2 ⟨by decide, by decide⟩ ?_
  obtain ⟨v3, hv3, hm⟩ := Option.bind_eq_some_iff.mp hm
  refine j_pF (ty := aY_S 0) G d_S_init_10 fl_S_11 ac_S (aw_T_of_S 0 (by decide) rfl) rfl rfl (by rintro _ _ _ ⟨⟩; exact wd_1_103) (aw_nA _ _) (aw_fA _ _) hv3 ?_
  refine j_iconst (v := 0) G d_S_init_13 (by decide) ?_
  refine j_istore_n G d_S_init_14 (by decide) ?_
  obtain ⟨e4, he4, ho4⟩ := Option.bind_eq_some_iff.mp hm
  clear hm
  refine j_lv [(0, aRf o), (1, aI (0 : Int32))] rfl ?_
  refine j_wide (1 + 18 * (0 : Int32).toNatClampNeg, 6 + 289 * (0 : Int32).toNatClampNeg) (by decide) (by decide) ?_
  refine aw_wh_elim (fun (s : Int32 × aw_W) => aj_J Γ 2 (1 + 18 * s.1.toNatClampNeg, 6 + 289 * s.1.toNatClampNeg) 15 [(0, aRf o), (1, aI s.1)] [] s.2) ?_ he4
  intro s4 x4 hm hin4 hout4
  try dsimp only at hm ⊢
  obtain ⟨u4, hu4, hm⟩ := Option.bind_eq_some_iff.mp hm
  have b4 := aw_le_some hu4
  refine j_iload_n G d_S_init_15 rfl ?_
  refine j_aload_n G d_S_init_16 rfl ?_
  obtain ⟨v5, hv5, hm⟩ := Option.bind_eq_some_iff.mp hm
  refine j_gR G d_S_init_17 fl_S_11 hv5 ?_
  obtain ⟨v6, hv6, hm⟩ := Option.bind_eq_some_iff.mp hm
  refine j_alen G d_S_init_20 rfl hv6 ?_
  refine j_icmp_ge (tgt := 43) G d_S_init_21 rfl (fun hc => ?_) (fun hc => ?_)
  · rw [if_pos hc] at hm
    have q4 := hout4 _ (Option.some.inj hm).symm
    clear hin4 hout4
    subst q4
    clear hm
    have hm := ho4
    clear ho4
    try dsimp only at hm
    refine j_aload_n G d_S_init_43 rfl ?_
    refine j_iconst (v := 0) G d_S_init_44 (by decide) ?_
    obtain ⟨v7, hv7, hm⟩ := Option.bind_eq_some_iff.mp hm
    refine j_pV (ty := aY_S 1) G d_S_init_45 fl_S_18 ac_S (aw_T_of_S 1 (by decide) rfl) rfl rfl hv7 ?_
    refine j_aload_n G d_S_init_48 rfl ?_
    refine j_null G d_S_init_49 ?_
    obtain ⟨v8, hv8, hm⟩ := Option.bind_eq_some_iff.mp hm
    refine j_pV (ty := aY_S 2) G d_S_init_50 fl_S_22 ac_S (aw_T_of_S 2 (by decide) rfl) (aw_nR _ _) (aw_fR _ _) hv8 ?_
    refine j_aload_n G d_S_init_53 rfl ?_
    refine j_iconst (v := 0) G d_S_init_54 (by decide) ?_
    obtain ⟨v9, hv9, hm⟩ := Option.bind_eq_some_iff.mp hm
    refine j_pV (ty := aY_S 3) G d_S_init_55 fl_S_26 ac_S (aw_T_of_S 3 (by decide) rfl) rfl rfl hv9 ?_
    obtain rfl := Option.some.inj hm
    exact j_vret G E d_S_init_58 ⟨by dsimp only [rm_S_init]; omega, by dsimp only [rm_S_init]; omega⟩ ⟨rfl, rfl⟩
  · rw [if_neg hc] at hm
    obtain ⟨y4, hy4, hm⟩ := Option.bind_eq_some_iff.mp hm
    have a4 := aw_succ_some hy4
    refine j_aload_n G d_S_init_24 rfl ?_
    obtain ⟨v10, hv10, hm⟩ := Option.bind_eq_some_iff.mp hm
    refine j_gR G d_S_init_25 fl_S_11 hv10 ?_
    refine j_iload_n G d_S_init_28 rfl ?_
    obtain ⟨v11, hv11, hm⟩ := Option.bind_eq_some_iff.mp hm
    refine j_new (ci := 6) (fs := [.null, .null, .null, .int 0, .int 0, .int 0]) aY_F G d_S_init_29 rfl aY_F_ok au_F wd_1_32 wd_1_34 wd_1_3 hv11 (by decide) ⟨by dsimp only [rm_S_init]; omega, by dsimp only [rm_S_init]; omega⟩ ?_
    refine j_dup G d_S_init_32 rfl ?_
    obtain ⟨v12, hv12, hm⟩ := Option.bind_eq_some_iff.mp hm
    refine j_callI (As := []) G d_S_init_33 (c_F_init _ G.off _ _ _ _ _ _ hv12) rfl rfl mw_F_init mn_F_init lk_S_17 rfl rfl (Nat.le_of_ble_eq_true rfl) ⟨by decide, by decide⟩ ⟨by dsimp only [rm_S_init, rm_F_init]; omega, by dsimp only [rm_S_init, rm_F_init]; omega⟩ (fun v9 w9 hp => ?_)
    obtain ⟨rfl, rfl⟩ := hp
    obtain ⟨v13, hv13, hm⟩ := Option.bind_eq_some_iff.mp hm
    obtain ⟨v14, hv14, hm⟩ := Option.bind_eq_some_iff.mp hm
    refine j_aast G d_S_init_36 rfl rfl hv13 hv14 ?_
    refine j_iinc (v := s4.1 + 1) G d_S_init_37 rfl (by first | rfl | decide) (by decide) ?_
    refine j_goto (tgt := 15) G d_S_init_40 rfl ?_
    refine j_wide (1 + 18 * (s4.1 + 1).toNatClampNeg, 6 + 289 * (s4.1 + 1).toNatClampNeg) (by dsimp only [rm_F_init]; omega) (by dsimp only [rm_F_init]; omega) ?_
    refine j_lv [(0, aRf o), (1, aI (s4.1 + 1))] rfl ?_
    have z9 := hin4 _ (Option.some.inj hm).symm
    exact z9
noncomputable def f_G_init (w : aw_W) (o : Option Nat) : Option (aw_W) :=
  (o).bind fun v1 =>
  (w.1).bind fun v2 =>
  (aw_pV (aw_add w v2 (.inl (5, 6, .inr (.inr (.inr (.inr (fun _ => none))))))) o 2 0 (va_rf (some v2))).bind fun v3 =>
  (aw_wh (σ := Int32 × aw_W) (τ := Int32 × aw_W) (fun s4 =>
    (aw_le s4.1 6).bind fun _ =>
    (aw_gR s4.2 o 2 0).bind fun v5 =>
    (aw_len s4.2 v5 5).bind fun v6 =>
    if v6 ≤ s4.1 then
      some (.inr (s4.1, s4.2))
    else
      (aw_succ s4.1 6).bind fun _ =>
      (aw_gR s4.2 o 2 0).bind fun v7 =>
      (s4.2.1).bind fun v8 =>
      (f_F_init (aw_add s4.2 v8 (.inr (6, [.null, .null, .null, .int 0, .int 0, .int 0]))) (some v8)).bind fun v9 =>
      (aw_obj v9 (some v8) 6).bind fun v10 =>
      (aw_sR v9 v7 5 s4.1 (some v8)).bind fun v11 =>
      some (.inl (s4.1 + 1, v11))) ((0 : Int32), v3)).bind fun e12 =>
  (aw_pV e12.2 o 2 2 (.int (0 : Int32))).bind fun v13 =>
  some v13
abbrev rm_G_init : Room := { frames := 3, cells := 127, slots := 2029, locals := 54 }
set_option maxRecDepth 100000 in
set_option maxHeartbeats 4000000 in
theorem c_G_init (l : Launch) (hl : l.stackTraces = false) (D : va_G) (dA : Nat → ClassId) (base : Nat) (w : aw_W) (o : Option Nat) (r : aw_W) (hm : f_G_init w o = some r) : aj_Ct l D dA base m_G_init rm_G_init [aRf o] w (fun v w' => none = v ∧ r = w') := by
  refine aj_enter hl (by decide) (Nat.le_of_ble_eq_true rfl) ?_
  intro Γ G E
  unfold f_G_init at hm
  refine j_aload_n G d_G_init_0 rfl ?_
  obtain ⟨v1, hv1, hm⟩ := Option.bind_eq_some_iff.mp hm
  refine j_objInitR G d_G_init_1 wd_1_135 wd_1_24 wd_1_25 ⟨by decide, Nat.le_of_ble_eq_true rfl⟩ hv1 ?_
  refine j_aload_n G d_G_init_4 rfl ?_
  refine j_bipush (v := 6) G d_G_init_5 (by decide) ?_
  obtain ⟨v2, hv2, hm⟩ := Option.bind_eq_some_iff.mp hm
  refine j_anew (t := 5) (N := 6) (C := "AppendStore$StoreFile") G d_G_init_7 wd_1_136 wd_1_33 rfl (by decide) (by decide) (by decide) hv2 ⟨by decide, by decide⟩ ?_
  obtain ⟨v3, hv3, hm⟩ := Option.bind_eq_some_iff.mp hm
  refine j_pF (ty := aY_G 0) G d_G_init_10 fl_G_11 ac_G (aw_T_of_G 0 (by decide) rfl) rfl rfl (by rintro _ _ _ ⟨⟩; exact wd_1_138) (aw_nA _ _) (aw_fA _ _) hv3 ?_
  refine j_iconst (v := 0) G d_G_init_13 (by decide) ?_
  refine j_istore_n G d_G_init_14 (by decide) ?_
  obtain ⟨e4, he4, ho4⟩ := Option.bind_eq_some_iff.mp hm
  clear hm
  refine j_lv [(0, aRf o), (1, aI (0 : Int32))] rfl ?_
  refine j_wide (1 + 18 * (0 : Int32).toNatClampNeg, 6 + 289 * (0 : Int32).toNatClampNeg) (by decide) (by decide) ?_
  refine aw_wh_elim (fun (s : Int32 × aw_W) => aj_J Γ 2 (1 + 18 * s.1.toNatClampNeg, 6 + 289 * s.1.toNatClampNeg) 15 [(0, aRf o), (1, aI s.1)] [] s.2) ?_ he4
  intro s4 x4 hm hin4 hout4
  try dsimp only at hm ⊢
  obtain ⟨u4, hu4, hm⟩ := Option.bind_eq_some_iff.mp hm
  have b4 := aw_le_some hu4
  refine j_iload_n G d_G_init_15 rfl ?_
  refine j_aload_n G d_G_init_16 rfl ?_
  obtain ⟨v5, hv5, hm⟩ := Option.bind_eq_some_iff.mp hm
  refine j_gR G d_G_init_17 fl_G_11 hv5 ?_
  obtain ⟨v6, hv6, hm⟩ := Option.bind_eq_some_iff.mp hm
  refine j_alen G d_G_init_20 rfl hv6 ?_
  refine j_icmp_ge (tgt := 43) G d_G_init_21 rfl (fun hc => ?_) (fun hc => ?_)
  · rw [if_pos hc] at hm
    have q4 := hout4 _ (Option.some.inj hm).symm
    clear hin4 hout4
    subst q4
    clear hm
    have hm := ho4
    clear ho4
    try dsimp only at hm
    refine j_aload_n G d_G_init_43 rfl ?_
    refine j_iconst (v := 0) G d_G_init_44 (by decide) ?_
    obtain ⟨v7, hv7, hm⟩ := Option.bind_eq_some_iff.mp hm
    refine j_pV (ty := aY_G 2) G d_G_init_45 fl_G_18 ac_G (aw_T_of_G 2 (by decide) rfl) rfl rfl hv7 ?_
    obtain rfl := Option.some.inj hm
    exact j_vret G E d_G_init_48 ⟨by dsimp only [rm_G_init]; omega, by dsimp only [rm_G_init]; omega⟩ ⟨rfl, rfl⟩
  · rw [if_neg hc] at hm
    obtain ⟨y4, hy4, hm⟩ := Option.bind_eq_some_iff.mp hm
    have a4 := aw_succ_some hy4
    refine j_aload_n G d_G_init_24 rfl ?_
    obtain ⟨v8, hv8, hm⟩ := Option.bind_eq_some_iff.mp hm
    refine j_gR G d_G_init_25 fl_G_11 hv8 ?_
    refine j_iload_n G d_G_init_28 rfl ?_
    obtain ⟨v9, hv9, hm⟩ := Option.bind_eq_some_iff.mp hm
    refine j_new (ci := 6) (fs := [.null, .null, .null, .int 0, .int 0, .int 0]) aY_F G d_G_init_29 rfl aY_F_ok au_F wd_1_136 wd_1_34 wd_1_3 hv9 (by decide) ⟨by dsimp only [rm_G_init]; omega, by dsimp only [rm_G_init]; omega⟩ ?_
    refine j_dup G d_G_init_32 rfl ?_
    obtain ⟨v10, hv10, hm⟩ := Option.bind_eq_some_iff.mp hm
    refine j_callI (As := []) G d_G_init_33 (c_F_init _ G.off _ _ _ _ _ _ hv10) rfl rfl mw_F_init mn_F_init lk_G_17 rfl rfl (Nat.le_of_ble_eq_true rfl) ⟨by decide, by decide⟩ ⟨by dsimp only [rm_G_init, rm_F_init]; omega, by dsimp only [rm_G_init, rm_F_init]; omega⟩ (fun v9 w9 hp => ?_)
    obtain ⟨rfl, rfl⟩ := hp
    obtain ⟨v11, hv11, hm⟩ := Option.bind_eq_some_iff.mp hm
    obtain ⟨v12, hv12, hm⟩ := Option.bind_eq_some_iff.mp hm
    refine j_aast G d_G_init_36 rfl rfl hv11 hv12 ?_
    refine j_iinc (v := s4.1 + 1) G d_G_init_37 rfl (by first | rfl | decide) (by decide) ?_
    refine j_goto (tgt := 15) G d_G_init_40 rfl ?_
    refine j_wide (1 + 18 * (s4.1 + 1).toNatClampNeg, 6 + 289 * (s4.1 + 1).toNatClampNeg) (by dsimp only [rm_F_init]; omega) (by dsimp only [rm_F_init]; omega) ?_
    refine j_lv [(0, aRf o), (1, aI (s4.1 + 1))] rfl ?_
    have z9 := hin4 _ (Option.some.inj hm).symm
    exact z9
noncomputable def f_S_syncActive (w : aw_W) (o : Option Nat) : Option (aw_W) :=
  (aw_gR w o 5 2).bind fun v1 =>
  (if v1 = none then
      some w
    else
      (aw_gR w o 5 2).bind fun v2 =>
      (aw_obj w v2 6).bind fun v3 =>
      (f_F_syncAll w v2).bind fun v4 =>
      some v4 : Option (aw_W)).bind fun j5 =>
  some j5
abbrev rm_S_syncActive : Room := { frames := 2, cells := 0, slots := 0, locals := 40 }
set_option maxRecDepth 100000 in
set_option maxHeartbeats 4000000 in
theorem c_S_syncActive (l : Launch) (hl : l.stackTraces = false) (D : va_G) (dA : Nat → ClassId) (base : Nat) (w : aw_W) (o : Option Nat) (r : aw_W) (hm : f_S_syncActive w o = some r) : aj_Ct l D dA base m_S_syncActive rm_S_syncActive [aRf o] w (fun v w' => none = v ∧ r = w') := by
  refine aj_enter hl (by decide) (Nat.le_of_ble_eq_true rfl) ?_
  intro Γ G E
  unfold f_S_syncActive at hm
  refine j_aload_n G d_S_syncActive_0 rfl ?_
  obtain ⟨v1, hv1, hm⟩ := Option.bind_eq_some_iff.mp hm
  refine j_gR G d_S_syncActive_1 fl_S_22 hv1 ?_
  obtain ⟨j2, hj2, ho2⟩ := Option.bind_eq_some_iff.mp hm
  clear hm
  have hJ2 : aj_J Γ 1 (0, 0) 14 [] [] j2 := by
    clear hj2
    have hm := ho2
    clear ho2
    obtain rfl := Option.some.inj hm
    exact j_vret G E d_S_syncActive_14 ⟨by decide, by decide⟩ ⟨rfl, rfl⟩
  clear ho2
  have hm := hj2
  clear hj2
  refine j_ifnull (tgt := 14) G d_S_syncActive_4 rfl (fun hc => ?_) (fun hc => ?_)
  · rw [if_pos hc] at hm
    obtain rfl := Option.some.inj hm
    refine j_lv [] rfl ?_
    exact hJ2
  · rw [if_neg hc] at hm
    refine j_aload_n G d_S_syncActive_7 rfl ?_
    obtain ⟨v3, hv3, hm⟩ := Option.bind_eq_some_iff.mp hm
    refine j_gR G d_S_syncActive_8 fl_S_22 hv3 ?_
    obtain ⟨v4, hv4, hm⟩ := Option.bind_eq_some_iff.mp hm
    obtain ⟨v5, hv5, hm⟩ := Option.bind_eq_some_iff.mp hm
    refine j_callV (As := []) G d_S_syncActive_11 (c_F_syncAll _ G.off _ _ _ _ _ _ hv5) mw_F_syncAll mi_F_syncAll lk_S_46 rfl hv4 rfl rfl (Nat.le_of_ble_eq_true rfl) ⟨by decide, by decide⟩ ⟨by decide, by decide⟩ (fun v9 w9 hp => ?_)
    obtain ⟨rfl, rfl⟩ := hp
    obtain rfl := Option.some.inj hm
    refine j_lv [] rfl ?_
    exact hJ2
noncomputable def f_S_sealActive (w : aw_W) (o : Option Nat) : Option (aw_W) :=
  (aw_obj w o 5).bind fun v1 =>
  (f_S_syncActive w o).bind fun v2 =>
  (aw_pV v2 o 5 2 (va_rf none)).bind fun v3 =>
  some v3
abbrev rm_S_sealActive : Room := { frames := 3, cells := 0, slots := 0, locals := 60 }
set_option maxRecDepth 100000 in
set_option maxHeartbeats 4000000 in
theorem c_S_sealActive (l : Launch) (hl : l.stackTraces = false) (D : va_G) (dA : Nat → ClassId) (base : Nat) (w : aw_W) (o : Option Nat) (r : aw_W) (hm : f_S_sealActive w o = some r) : aj_Ct l D dA base m_S_sealActive rm_S_sealActive [aRf o] w (fun v w' => none = v ∧ r = w') := by
  refine aj_enter hl (by decide) (Nat.le_of_ble_eq_true rfl) ?_
  intro Γ G E
  unfold f_S_sealActive at hm
  refine j_aload_n G d_S_sealActive_0 rfl ?_
  obtain ⟨v1, hv1, hm⟩ := Option.bind_eq_some_iff.mp hm
  obtain ⟨v2, hv2, hm⟩ := Option.bind_eq_some_iff.mp hm
  refine j_callV (As := []) G d_S_sealActive_1 (c_S_syncActive _ G.off _ _ _ _ _ _ hv2) mw_S_syncActive mi_S_syncActive lk_S_49 rfl hv1 rfl rfl (Nat.le_of_ble_eq_true rfl) ⟨by decide, by decide⟩ ⟨by decide, by decide⟩ (fun v9 w9 hp => ?_)
  obtain ⟨rfl, rfl⟩ := hp
  refine j_aload_n G d_S_sealActive_4 rfl ?_
  refine j_null G d_S_sealActive_5 ?_
  obtain ⟨v3, hv3, hm⟩ := Option.bind_eq_some_iff.mp hm
  refine j_pV (ty := aY_S 2) G d_S_sealActive_6 fl_S_22 ac_S (aw_T_of_S 2 (by decide) rfl) (aw_nR _ _) (aw_fR _ _) hv3 ?_
  obtain rfl := Option.some.inj hm
  exact j_vret G E d_S_sealActive_9 ⟨by decide, by decide⟩ ⟨rfl, rfl⟩
noncomputable def f_S_withRoomFor (w : aw_W) (o : Option Nat) (p1 : Int32) : Option ((Option Nat) × aw_W) :=
  (aw_gR w o 5 2).bind fun v1 =>
  if v1 = none then
    (aw_gI w o 5 1).bind fun v2 =>
    (aw_gR w o 5 0).bind fun v3 =>
    (aw_len w v3 5).bind fun v4 =>
    if v2 = v4 then
      some (none, w)
    else
      (aw_obj w o 5).bind fun v5 =>
      (f_S_sealActive w o).bind fun v6 =>
      (aw_gI v6 o 5 3).bind fun v7 =>
      (aw_pV v6 o 5 3 (.int (v7 + (1 : Int32)))).bind fun v8 =>
      (aw_gR v8 o 5 0).bind fun v9 =>
      (aw_gI v8 o 5 1).bind fun v10 =>
      (aw_aR v8 v9 5 v10).bind fun v11 =>
      (aw_pV v8 o 5 2 (va_rf v11)).bind fun v12 =>
      (aw_gR v12 o 5 2).bind fun v13 =>
      (aw_gI v12 o 5 3).bind fun v14 =>
      (aw_obj v12 v13 6).bind fun v15 =>
      (f_F_begin v12 v13 v14).bind fun v16 =>
      (aw_gI v16 o 5 1).bind fun v17 =>
      (aw_pV v16 o 5 1 (.int (v17 + (1 : Int32)))).bind fun v18 =>
      (aw_gR v18 o 5 2).bind fun v19 =>
      some (v19, v18)
  else
    (aw_gR w o 5 2).bind fun v20 =>
    (aw_obj w v20 6).bind fun v21 =>
    (f_F_bytes w v20).bind fun v22 =>
    (aw_obj w v22 3).bind fun v23 =>
    (f_O_hasRoomFor w v22 p1).bind fun v24 =>
    if v24 = 0 then
      (aw_gI w o 5 1).bind fun v25 =>
      (aw_gR w o 5 0).bind fun v26 =>
      (aw_len w v26 5).bind fun v27 =>
      if v25 = v27 then
        some (none, w)
      else
        (aw_obj w o 5).bind fun v28 =>
        (f_S_sealActive w o).bind fun v29 =>
        (aw_gI v29 o 5 3).bind fun v30 =>
        (aw_pV v29 o 5 3 (.int (v30 + (1 : Int32)))).bind fun v31 =>
        (aw_gR v31 o 5 0).bind fun v32 =>
        (aw_gI v31 o 5 1).bind fun v33 =>
        (aw_aR v31 v32 5 v33).bind fun v34 =>
        (aw_pV v31 o 5 2 (va_rf v34)).bind fun v35 =>
        (aw_gR v35 o 5 2).bind fun v36 =>
        (aw_gI v35 o 5 3).bind fun v37 =>
        (aw_obj v35 v36 6).bind fun v38 =>
        (f_F_begin v35 v36 v37).bind fun v39 =>
        (aw_gI v39 o 5 1).bind fun v40 =>
        (aw_pV v39 o 5 1 (.int (v40 + (1 : Int32)))).bind fun v41 =>
        (aw_gR v41 o 5 2).bind fun v42 =>
        some (v42, v41)
    else
      (aw_gR w o 5 2).bind fun v43 =>
      some (v43, w)
abbrev rm_S_withRoomFor : Room := { frames := 4, cells := 0, slots := 0, locals := 80 }
set_option maxRecDepth 100000 in
set_option maxHeartbeats 4000000 in
theorem c_S_withRoomFor (l : Launch) (hl : l.stackTraces = false) (D : va_G) (dA : Nat → ClassId) (base : Nat) (w : aw_W) (o : Option Nat) (p1 : Int32) (r : (Option Nat) × aw_W) (hm : f_S_withRoomFor w o p1 = some r) : aj_Ct l D dA base m_S_withRoomFor rm_S_withRoomFor [aRf o, aI p1] w (fun v w' => some (aRf r.1) = v ∧ r.2 = w') := by
  refine aj_enter hl (by decide) (Nat.le_of_ble_eq_true rfl) ?_
  intro Γ G E
  unfold f_S_withRoomFor at hm
  refine j_aload_n G d_S_withRoomFor_0 rfl ?_
  obtain ⟨v1, hv1, hm⟩ := Option.bind_eq_some_iff.mp hm
  refine j_gR G d_S_withRoomFor_1 fl_S_22 hv1 ?_
  refine j_ifnull (tgt := 26) G d_S_withRoomFor_4 rfl (fun hc => ?_) (fun hc => ?_)
  · rw [if_pos hc] at hm
    refine j_aload_n G d_S_withRoomFor_26 rfl ?_
    obtain ⟨v2, hv2, hm⟩ := Option.bind_eq_some_iff.mp hm
    refine j_gI G d_S_withRoomFor_27 fl_S_18 hv2 ?_
    refine j_aload_n G d_S_withRoomFor_30 rfl ?_
    obtain ⟨v3, hv3, hm⟩ := Option.bind_eq_some_iff.mp hm
    refine j_gR G d_S_withRoomFor_31 fl_S_11 hv3 ?_
    obtain ⟨v4, hv4, hm⟩ := Option.bind_eq_some_iff.mp hm
    refine j_alen G d_S_withRoomFor_34 rfl hv4 ?_
    refine j_icmp_ne (tgt := 40) G d_S_withRoomFor_35 rfl (fun hc => ?_) (fun hc => ?_)
    · rw [if_neg hc] at hm
      refine j_aload_n G d_S_withRoomFor_40 rfl ?_
      obtain ⟨v5, hv5, hm⟩ := Option.bind_eq_some_iff.mp hm
      obtain ⟨v6, hv6, hm⟩ := Option.bind_eq_some_iff.mp hm
      refine j_callV (As := []) G d_S_withRoomFor_41 (c_S_sealActive _ G.off _ _ _ _ _ _ hv6) mw_S_sealActive mi_S_sealActive lk_S_39 rfl hv5 rfl rfl (Nat.le_of_ble_eq_true rfl) ⟨by decide, by decide⟩ ⟨by decide, by decide⟩ (fun v9 w9 hp => ?_)
      obtain ⟨rfl, rfl⟩ := hp
      refine j_aload_n G d_S_withRoomFor_44 rfl ?_
      refine j_dup G d_S_withRoomFor_45 rfl ?_
      obtain ⟨v7, hv7, hm⟩ := Option.bind_eq_some_iff.mp hm
      refine j_gI G d_S_withRoomFor_46 fl_S_26 hv7 ?_
      refine j_iconst (v := 1) G d_S_withRoomFor_49 (by decide) ?_
      refine j_iadd G d_S_withRoomFor_50 ?_
      obtain ⟨v8, hv8, hm⟩ := Option.bind_eq_some_iff.mp hm
      refine j_pV (ty := aY_S 3) G d_S_withRoomFor_51 fl_S_26 ac_S (aw_T_of_S 3 (by decide) rfl) rfl rfl hv8 ?_
      refine j_aload_n G d_S_withRoomFor_54 rfl ?_
      refine j_aload_n G d_S_withRoomFor_55 rfl ?_
      obtain ⟨v9, hv9, hm⟩ := Option.bind_eq_some_iff.mp hm
      refine j_gR G d_S_withRoomFor_56 fl_S_11 hv9 ?_
      refine j_aload_n G d_S_withRoomFor_59 rfl ?_
      obtain ⟨v10, hv10, hm⟩ := Option.bind_eq_some_iff.mp hm
      refine j_gI G d_S_withRoomFor_60 fl_S_18 hv10 ?_
      obtain ⟨v11, hv11, hm⟩ := Option.bind_eq_some_iff.mp hm
      refine j_aald (C := "AppendStore$StoreFile") G d_S_withRoomFor_63 rfl hv11 ?_
      obtain ⟨v12, hv12, hm⟩ := Option.bind_eq_some_iff.mp hm
      refine j_pV (ty := aY_S 2) G d_S_withRoomFor_64 fl_S_22 ac_S (aw_T_of_S 2 (by decide) rfl) (aw_nR _ _) (aw_fR _ _) hv12 ?_
      refine j_aload_n G d_S_withRoomFor_67 rfl ?_
      obtain ⟨v13, hv13, hm⟩ := Option.bind_eq_some_iff.mp hm
      refine j_gR G d_S_withRoomFor_68 fl_S_22 hv13 ?_
      refine j_aload_n G d_S_withRoomFor_71 rfl ?_
      obtain ⟨v14, hv14, hm⟩ := Option.bind_eq_some_iff.mp hm
      refine j_gI G d_S_withRoomFor_72 fl_S_26 hv14 ?_
      obtain ⟨v15, hv15, hm⟩ := Option.bind_eq_some_iff.mp hm
      obtain ⟨v16, hv16, hm⟩ := Option.bind_eq_some_iff.mp hm
      refine j_callV (As := [aI v14]) G d_S_withRoomFor_75 (c_F_begin _ G.off _ _ _ _ _ _ _ hv16) mw_F_begin mi_F_begin lk_S_42 rfl hv15 rfl rfl (Nat.le_of_ble_eq_true rfl) ⟨by decide, by decide⟩ ⟨by decide, by decide⟩ (fun v9 w9 hp => ?_)
      obtain ⟨rfl, rfl⟩ := hp
      refine j_aload_n G d_S_withRoomFor_78 rfl ?_
      refine j_dup G d_S_withRoomFor_79 rfl ?_
      obtain ⟨v17, hv17, hm⟩ := Option.bind_eq_some_iff.mp hm
      refine j_gI G d_S_withRoomFor_80 fl_S_18 hv17 ?_
      refine j_iconst (v := 1) G d_S_withRoomFor_83 (by decide) ?_
      refine j_iadd G d_S_withRoomFor_84 ?_
      obtain ⟨v18, hv18, hm⟩ := Option.bind_eq_some_iff.mp hm
      refine j_pV (ty := aY_S 1) G d_S_withRoomFor_85 fl_S_18 ac_S (aw_T_of_S 1 (by decide) rfl) rfl rfl hv18 ?_
      refine j_aload_n G d_S_withRoomFor_88 rfl ?_
      obtain ⟨v19, hv19, hm⟩ := Option.bind_eq_some_iff.mp hm
      refine j_gR G d_S_withRoomFor_89 fl_S_22 hv19 ?_
      obtain rfl := Option.some.inj hm
      exact j_aret G E d_S_withRoomFor_92 ⟨by decide, by decide⟩ ⟨rfl, rfl⟩
    · rw [if_pos hc] at hm
      refine j_null G d_S_withRoomFor_38 ?_
      obtain rfl := Option.some.inj hm
      exact j_aret G E d_S_withRoomFor_39 ⟨by decide, by decide⟩ ⟨rfl, rfl⟩
  · rw [if_neg hc] at hm
    refine j_aload_n G d_S_withRoomFor_7 rfl ?_
    obtain ⟨v20, hv20, hm⟩ := Option.bind_eq_some_iff.mp hm
    refine j_gR G d_S_withRoomFor_8 fl_S_22 hv20 ?_
    obtain ⟨v21, hv21, hm⟩ := Option.bind_eq_some_iff.mp hm
    obtain ⟨v22, hv22, hm⟩ := Option.bind_eq_some_iff.mp hm
    refine j_callV (As := []) G d_S_withRoomFor_11 (c_F_bytes _ G.off _ _ _ _ _ _ hv22) mw_F_bytes mi_F_bytes lk_S_29 rfl hv21 rfl rfl (Nat.le_of_ble_eq_true rfl) ⟨by decide, by decide⟩ ⟨by decide, by decide⟩ (fun v9 w9 hp => ?_)
    obtain ⟨rfl, rfl⟩ := hp
    refine j_iload_n G d_S_withRoomFor_14 rfl ?_
    obtain ⟨v23, hv23, hm⟩ := Option.bind_eq_some_iff.mp hm
    obtain ⟨v24, hv24, hm⟩ := Option.bind_eq_some_iff.mp hm
    refine j_callV (As := [aI p1]) G d_S_withRoomFor_15 (c_O_hasRoomFor _ G.off _ _ _ _ _ _ _ hv24) mw_O_hasRoomFor mi_O_hasRoomFor lk_S_33 rfl hv23 rfl rfl (Nat.le_of_ble_eq_true rfl) ⟨by decide, by decide⟩ ⟨by decide, by decide⟩ (fun v9 w9 hp => ?_)
    obtain ⟨rfl, rfl⟩ := hp
    refine j_if_eq (tgt := 26) G d_S_withRoomFor_18 rfl (fun hc => ?_) (fun hc => ?_)
    · rw [if_pos hc] at hm
      refine j_aload_n G d_S_withRoomFor_26 rfl ?_
      obtain ⟨v25, hv25, hm⟩ := Option.bind_eq_some_iff.mp hm
      refine j_gI G d_S_withRoomFor_27 fl_S_18 hv25 ?_
      refine j_aload_n G d_S_withRoomFor_30 rfl ?_
      obtain ⟨v26, hv26, hm⟩ := Option.bind_eq_some_iff.mp hm
      refine j_gR G d_S_withRoomFor_31 fl_S_11 hv26 ?_
      obtain ⟨v27, hv27, hm⟩ := Option.bind_eq_some_iff.mp hm
      refine j_alen G d_S_withRoomFor_34 rfl hv27 ?_
      refine j_icmp_ne (tgt := 40) G d_S_withRoomFor_35 rfl (fun hc => ?_) (fun hc => ?_)
      · rw [if_neg hc] at hm
        refine j_aload_n G d_S_withRoomFor_40 rfl ?_
        obtain ⟨v28, hv28, hm⟩ := Option.bind_eq_some_iff.mp hm
        obtain ⟨v29, hv29, hm⟩ := Option.bind_eq_some_iff.mp hm
        refine j_callV (As := []) G d_S_withRoomFor_41 (c_S_sealActive _ G.off _ _ _ _ _ _ hv29) mw_S_sealActive mi_S_sealActive lk_S_39 rfl hv28 rfl rfl (Nat.le_of_ble_eq_true rfl) ⟨by decide, by decide⟩ ⟨by decide, by decide⟩ (fun v9 w9 hp => ?_)
        obtain ⟨rfl, rfl⟩ := hp
        refine j_aload_n G d_S_withRoomFor_44 rfl ?_
        refine j_dup G d_S_withRoomFor_45 rfl ?_
        obtain ⟨v30, hv30, hm⟩ := Option.bind_eq_some_iff.mp hm
        refine j_gI G d_S_withRoomFor_46 fl_S_26 hv30 ?_
        refine j_iconst (v := 1) G d_S_withRoomFor_49 (by decide) ?_
        refine j_iadd G d_S_withRoomFor_50 ?_
        obtain ⟨v31, hv31, hm⟩ := Option.bind_eq_some_iff.mp hm
        refine j_pV (ty := aY_S 3) G d_S_withRoomFor_51 fl_S_26 ac_S (aw_T_of_S 3 (by decide) rfl) rfl rfl hv31 ?_
        refine j_aload_n G d_S_withRoomFor_54 rfl ?_
        refine j_aload_n G d_S_withRoomFor_55 rfl ?_
        obtain ⟨v32, hv32, hm⟩ := Option.bind_eq_some_iff.mp hm
        refine j_gR G d_S_withRoomFor_56 fl_S_11 hv32 ?_
        refine j_aload_n G d_S_withRoomFor_59 rfl ?_
        obtain ⟨v33, hv33, hm⟩ := Option.bind_eq_some_iff.mp hm
        refine j_gI G d_S_withRoomFor_60 fl_S_18 hv33 ?_
        obtain ⟨v34, hv34, hm⟩ := Option.bind_eq_some_iff.mp hm
        refine j_aald (C := "AppendStore$StoreFile") G d_S_withRoomFor_63 rfl hv34 ?_
        obtain ⟨v35, hv35, hm⟩ := Option.bind_eq_some_iff.mp hm
        refine j_pV (ty := aY_S 2) G d_S_withRoomFor_64 fl_S_22 ac_S (aw_T_of_S 2 (by decide) rfl) (aw_nR _ _) (aw_fR _ _) hv35 ?_
        refine j_aload_n G d_S_withRoomFor_67 rfl ?_
        obtain ⟨v36, hv36, hm⟩ := Option.bind_eq_some_iff.mp hm
        refine j_gR G d_S_withRoomFor_68 fl_S_22 hv36 ?_
        refine j_aload_n G d_S_withRoomFor_71 rfl ?_
        obtain ⟨v37, hv37, hm⟩ := Option.bind_eq_some_iff.mp hm
        refine j_gI G d_S_withRoomFor_72 fl_S_26 hv37 ?_
        obtain ⟨v38, hv38, hm⟩ := Option.bind_eq_some_iff.mp hm
        obtain ⟨v39, hv39, hm⟩ := Option.bind_eq_some_iff.mp hm
        refine j_callV (As := [aI v37]) G d_S_withRoomFor_75 (c_F_begin _ G.off _ _ _ _ _ _ _ hv39) mw_F_begin mi_F_begin lk_S_42 rfl hv38 rfl rfl (Nat.le_of_ble_eq_true rfl) ⟨by decide, by decide⟩ ⟨by decide, by decide⟩ (fun v9 w9 hp => ?_)
        obtain ⟨rfl, rfl⟩ := hp
        refine j_aload_n G d_S_withRoomFor_78 rfl ?_
        refine j_dup G d_S_withRoomFor_79 rfl ?_
        obtain ⟨v40, hv40, hm⟩ := Option.bind_eq_some_iff.mp hm
        refine j_gI G d_S_withRoomFor_80 fl_S_18 hv40 ?_
        refine j_iconst (v := 1) G d_S_withRoomFor_83 (by decide) ?_
        refine j_iadd G d_S_withRoomFor_84 ?_
        obtain ⟨v41, hv41, hm⟩ := Option.bind_eq_some_iff.mp hm
        refine j_pV (ty := aY_S 1) G d_S_withRoomFor_85 fl_S_18 ac_S (aw_T_of_S 1 (by decide) rfl) rfl rfl hv41 ?_
        refine j_aload_n G d_S_withRoomFor_88 rfl ?_
        obtain ⟨v42, hv42, hm⟩ := Option.bind_eq_some_iff.mp hm
        refine j_gR G d_S_withRoomFor_89 fl_S_22 hv42 ?_
        obtain rfl := Option.some.inj hm
        exact j_aret G E d_S_withRoomFor_92 ⟨by decide, by decide⟩ ⟨rfl, rfl⟩
      · rw [if_pos hc] at hm
        refine j_null G d_S_withRoomFor_38 ?_
        obtain rfl := Option.some.inj hm
        exact j_aret G E d_S_withRoomFor_39 ⟨by decide, by decide⟩ ⟨rfl, rfl⟩
    · rw [if_neg hc] at hm
      refine j_aload_n G d_S_withRoomFor_21 rfl ?_
      obtain ⟨v43, hv43, hm⟩ := Option.bind_eq_some_iff.mp hm
      refine j_gR G d_S_withRoomFor_22 fl_S_22 hv43 ?_
      obtain rfl := Option.some.inj hm
      exact j_aret G E d_S_withRoomFor_25 ⟨by decide, by decide⟩ ⟨rfl, rfl⟩
noncomputable def f_S_losePower (w : aw_W) (o : Option Nat) (p1 : Int32) : Option (aw_W) :=
  (aw_gR w o 5 2).bind fun v1 =>
  (if v1 = none then
      some w
    else
      (aw_gR w o 5 2).bind fun v2 =>
      (aw_obj w v2 6).bind fun v3 =>
      (f_F_losePower w v2 p1).bind fun v4 =>
      some v4 : Option (aw_W)).bind fun j5 =>
  (aw_pV j5 o 5 2 (va_rf none)).bind fun v6 =>
  some v6
abbrev rm_S_losePower : Room := { frames := 3, cells := 0, slots := 0, locals := 61 }
set_option maxRecDepth 100000 in
set_option maxHeartbeats 4000000 in
theorem c_S_losePower (l : Launch) (hl : l.stackTraces = false) (D : va_G) (dA : Nat → ClassId) (base : Nat) (w : aw_W) (o : Option Nat) (p1 : Int32) (r : aw_W) (hm : f_S_losePower w o p1 = some r) : aj_Ct l D dA base m_S_losePower rm_S_losePower [aRf o, aI p1] w (fun v w' => none = v ∧ r = w') := by
  refine aj_enter hl (by decide) (Nat.le_of_ble_eq_true rfl) ?_
  intro Γ G E
  unfold f_S_losePower at hm
  refine j_aload_n G d_S_losePower_0 rfl ?_
  obtain ⟨v1, hv1, hm⟩ := Option.bind_eq_some_iff.mp hm
  refine j_gR G d_S_losePower_1 fl_S_22 hv1 ?_
  obtain ⟨j2, hj2, ho2⟩ := Option.bind_eq_some_iff.mp hm
  clear hm
  have hJ2 : aj_J Γ 2 (0, 0) 15 [(0, aRf o)] [] j2 := by
    clear hj2
    have hm := ho2
    clear ho2
    refine j_aload_n G d_S_losePower_15 rfl ?_
    refine j_null G d_S_losePower_16 ?_
    obtain ⟨v3, hv3, hm⟩ := Option.bind_eq_some_iff.mp hm
    refine j_pV (ty := aY_S 2) G d_S_losePower_17 fl_S_22 ac_S (aw_T_of_S 2 (by decide) rfl) (aw_nR _ _) (aw_fR _ _) hv3 ?_
    obtain rfl := Option.some.inj hm
    exact j_vret G E d_S_losePower_20 ⟨by decide, by decide⟩ ⟨rfl, rfl⟩
  clear ho2
  have hm := hj2
  clear hj2
  refine j_ifnull (tgt := 15) G d_S_losePower_4 rfl (fun hc => ?_) (fun hc => ?_)
  · rw [if_pos hc] at hm
    obtain rfl := Option.some.inj hm
    refine j_lv [(0, aRf o)] rfl ?_
    exact hJ2
  · rw [if_neg hc] at hm
    refine j_aload_n G d_S_losePower_7 rfl ?_
    obtain ⟨v4, hv4, hm⟩ := Option.bind_eq_some_iff.mp hm
    refine j_gR G d_S_losePower_8 fl_S_22 hv4 ?_
    refine j_iload_n G d_S_losePower_11 rfl ?_
    obtain ⟨v5, hv5, hm⟩ := Option.bind_eq_some_iff.mp hm
    obtain ⟨v6, hv6, hm⟩ := Option.bind_eq_some_iff.mp hm
    refine j_callV (As := [aI p1]) G d_S_losePower_12 (c_F_losePower _ G.off _ _ _ _ _ _ _ hv6) mw_F_losePower mi_F_losePower lk_S_52 rfl hv5 rfl rfl (Nat.le_of_ble_eq_true rfl) ⟨by decide, by decide⟩ ⟨by decide, by decide⟩ (fun v9 w9 hp => ?_)
    obtain ⟨rfl, rfl⟩ := hp
    obtain rfl := Option.some.inj hm
    refine j_lv [(0, aRf o)] rfl ?_
    exact hJ2
noncomputable def f_G_drop (w : aw_W) (o : Option Nat) : Option (aw_W) :=
  (aw_pV w o 2 2 (.int (0 : Int32))).bind fun v1 =>
  some v1
abbrev rm_G_drop : Room := { frames := 0, cells := 0, slots := 0, locals := 0 }
set_option maxRecDepth 100000 in
set_option maxHeartbeats 4000000 in
theorem c_G_drop (l : Launch) (hl : l.stackTraces = false) (D : va_G) (dA : Nat → ClassId) (base : Nat) (w : aw_W) (o : Option Nat) (r : aw_W) (hm : f_G_drop w o = some r) : aj_Ct l D dA base m_G_drop rm_G_drop [aRf o] w (fun v w' => none = v ∧ r = w') := by
  refine aj_enter hl (by decide) (Nat.le_of_ble_eq_true rfl) ?_
  intro Γ G E
  unfold f_G_drop at hm
  refine j_aload_n G d_G_drop_0 rfl ?_
  refine j_iconst (v := 0) G d_G_drop_1 (by decide) ?_
  obtain ⟨v1, hv1, hm⟩ := Option.bind_eq_some_iff.mp hm
  refine j_pV (ty := aY_G 2) G d_G_drop_2 fl_G_18 ac_G (aw_T_of_G 2 (by decide) rfl) rfl rfl hv1 ?_
  obtain rfl := Option.some.inj hm
  exact j_vret G E d_G_drop_5 ⟨by decide, by decide⟩ ⟨rfl, rfl⟩
noncomputable def f_S_count (w : aw_W) (o : Option Nat) : Option (Int32) :=
  (aw_gI w o 5 1).bind fun v1 =>
  some v1
abbrev rm_S_count : Room := { frames := 0, cells := 0, slots := 0, locals := 0 }
set_option maxRecDepth 100000 in
set_option maxHeartbeats 4000000 in
theorem c_S_count (l : Launch) (hl : l.stackTraces = false) (D : va_G) (dA : Nat → ClassId) (base : Nat) (w : aw_W) (o : Option Nat) (r : Int32) (hm : f_S_count w o = some r) : aj_Ct l D dA base m_S_count rm_S_count [aRf o] w (fun v w' => some (aI r) = v ∧ w = w') := by
  refine aj_enter hl (by decide) (Nat.le_of_ble_eq_true rfl) ?_
  intro Γ G E
  unfold f_S_count at hm
  refine j_aload_n G d_S_count_0 rfl ?_
  obtain ⟨v1, hv1, hm⟩ := Option.bind_eq_some_iff.mp hm
  refine j_gI G d_S_count_1 fl_S_18 hv1 ?_
  obtain rfl := Option.some.inj hm
  exact j_iret G E d_S_count_4 ⟨by decide, by decide⟩ ⟨rfl, rfl⟩
noncomputable def f_S_at (w : aw_W) (o : Option Nat) (p1 : Int32) : Option (Option Nat) :=
  (if p1 < 0 then
      some none
    else
      (aw_gI w o 5 1).bind fun v1 =>
      if v1 ≤ p1 then
        some none
      else
        (aw_gR w o 5 0).bind fun v2 =>
        (aw_aR w v2 5 p1).bind fun v3 =>
        some v3 : Option (Option Nat)).bind fun j4 =>
  some j4
abbrev rm_S_at : Room := { frames := 0, cells := 0, slots := 0, locals := 0 }
set_option maxRecDepth 100000 in
set_option maxHeartbeats 4000000 in
theorem c_S_at (l : Launch) (hl : l.stackTraces = false) (D : va_G) (dA : Nat → ClassId) (base : Nat) (w : aw_W) (o : Option Nat) (p1 : Int32) (r : Option Nat) (hm : f_S_at w o p1 = some r) : aj_Ct l D dA base m_S_at rm_S_at [aRf o, aI p1] w (fun v w' => some (aRf r) = v ∧ w = w') := by
  refine aj_enter hl (by decide) (Nat.le_of_ble_eq_true rfl) ?_
  intro Γ G E
  unfold f_S_at at hm
  refine j_iload_n G d_S_at_0 rfl ?_
  obtain ⟨j1, hj1, ho1⟩ := Option.bind_eq_some_iff.mp hm
  clear hm
  have hJ1 : aj_J Γ 2 (0, 0) 22 [] [aRf j1] w := by
    clear hj1
    have hm := ho1
    clear ho1
    obtain rfl := Option.some.inj hm
    exact j_aret G E d_S_at_22 ⟨by decide, by decide⟩ ⟨rfl, rfl⟩
  clear ho1
  have hm := hj1
  clear hj1
  refine j_if_lt (tgt := 21) G d_S_at_1 rfl (fun hc => ?_) (fun hc => ?_)
  · rw [if_pos hc] at hm
    refine j_null G d_S_at_21 ?_
    obtain rfl := Option.some.inj hm
    refine j_lv [] rfl ?_
    exact hJ1
  · rw [if_neg hc] at hm
    refine j_iload_n G d_S_at_4 rfl ?_
    refine j_aload_n G d_S_at_5 rfl ?_
    obtain ⟨v2, hv2, hm⟩ := Option.bind_eq_some_iff.mp hm
    refine j_gI G d_S_at_6 fl_S_18 hv2 ?_
    refine j_icmp_ge (tgt := 21) G d_S_at_9 rfl (fun hc => ?_) (fun hc => ?_)
    · rw [if_pos hc] at hm
      refine j_null G d_S_at_21 ?_
      obtain rfl := Option.some.inj hm
      refine j_lv [] rfl ?_
      exact hJ1
    · rw [if_neg hc] at hm
      refine j_aload_n G d_S_at_12 rfl ?_
      obtain ⟨v3, hv3, hm⟩ := Option.bind_eq_some_iff.mp hm
      refine j_gR G d_S_at_13 fl_S_11 hv3 ?_
      refine j_iload_n G d_S_at_16 rfl ?_
      obtain ⟨v4, hv4, hm⟩ := Option.bind_eq_some_iff.mp hm
      refine j_aald (C := "AppendStore$StoreFile") G d_S_at_17 rfl hv4 ?_
      refine j_goto (tgt := 22) G d_S_at_18 rfl ?_
      obtain rfl := Option.some.inj hm
      refine j_lv [] rfl ?_
      exact hJ1
noncomputable def f_G_goesOn (w : aw_W) (o : Option Nat) : Option (Int32) :=
  (aw_gI w o 2 2).bind fun v1 =>
  (if v1 ≤ 0 then
      some (0 : Int32)
    else
      some (1 : Int32) : Option (Int32)).bind fun j2 =>
  (aw_zz j2).bind fun v3 =>
  some j2
abbrev rm_G_goesOn : Room := { frames := 0, cells := 0, slots := 0, locals := 0 }
set_option maxRecDepth 100000 in
set_option maxHeartbeats 4000000 in
theorem c_G_goesOn (l : Launch) (hl : l.stackTraces = false) (D : va_G) (dA : Nat → ClassId) (base : Nat) (w : aw_W) (o : Option Nat) (r : Int32) (hm : f_G_goesOn w o = some r) : aj_Ct l D dA base m_G_goesOn rm_G_goesOn [aRf o] w (fun v w' => some (aI r) = v ∧ w = w') := by
  refine aj_enter hl (by decide) (Nat.le_of_ble_eq_true rfl) ?_
  intro Γ G E
  unfold f_G_goesOn at hm
  refine j_aload_n G d_G_goesOn_0 rfl ?_
  obtain ⟨v1, hv1, hm⟩ := Option.bind_eq_some_iff.mp hm
  refine j_gI G d_G_goesOn_1 fl_G_18 hv1 ?_
  obtain ⟨j2, hj2, ho2⟩ := Option.bind_eq_some_iff.mp hm
  clear hm
  have hJ2 : aj_J Γ 1 (0, 0) 12 [] [aI j2] w := by
    clear hj2
    have hm := ho2
    clear ho2
    obtain ⟨v3, hv3, hm⟩ := Option.bind_eq_some_iff.mp hm
    obtain rfl := Option.some.inj hm
    exact j_zret G E d_G_goesOn_12 ⟨by decide, by decide⟩ (aw_zz_some hv3) ⟨rfl, rfl⟩
  clear ho2
  have hm := hj2
  clear hj2
  refine j_if_le (tgt := 11) G d_G_goesOn_4 rfl (fun hc => ?_) (fun hc => ?_)
  · rw [if_pos hc] at hm
    refine j_iconst (v := 0) G d_G_goesOn_11 (by decide) ?_
    obtain rfl := Option.some.inj hm
    refine j_lv [] rfl ?_
    exact hJ2
  · rw [if_neg hc] at hm
    refine j_iconst (v := 1) G d_G_goesOn_7 (by decide) ?_
    refine j_goto (tgt := 12) G d_G_goesOn_8 rfl ?_
    obtain rfl := Option.some.inj hm
    refine j_lv [] rfl ?_
    exact hJ2
noncomputable def f_S_sealedCount (w : aw_W) (o : Option Nat) : Option (Int32) :=
  (aw_gR w o 5 2).bind fun v1 =>
  (if v1 = none then
      (aw_gI w o 5 1).bind fun v2 =>
      some v2
    else
      (aw_gI w o 5 1).bind fun v3 =>
      some (v3 - (1 : Int32)) : Option (Int32)).bind fun j4 =>
  some j4
abbrev rm_S_sealedCount : Room := { frames := 0, cells := 0, slots := 0, locals := 0 }
set_option maxRecDepth 100000 in
set_option maxHeartbeats 4000000 in
theorem c_S_sealedCount (l : Launch) (hl : l.stackTraces = false) (D : va_G) (dA : Nat → ClassId) (base : Nat) (w : aw_W) (o : Option Nat) (r : Int32) (hm : f_S_sealedCount w o = some r) : aj_Ct l D dA base m_S_sealedCount rm_S_sealedCount [aRf o] w (fun v w' => some (aI r) = v ∧ w = w') := by
  refine aj_enter hl (by decide) (Nat.le_of_ble_eq_true rfl) ?_
  intro Γ G E
  unfold f_S_sealedCount at hm
  refine j_aload_n G d_S_sealedCount_0 rfl ?_
  obtain ⟨v1, hv1, hm⟩ := Option.bind_eq_some_iff.mp hm
  refine j_gR G d_S_sealedCount_1 fl_S_22 hv1 ?_
  obtain ⟨j2, hj2, ho2⟩ := Option.bind_eq_some_iff.mp hm
  clear hm
  have hJ2 : aj_J Γ 1 (0, 0) 20 [] [aI j2] w := by
    clear hj2
    have hm := ho2
    clear ho2
    obtain rfl := Option.some.inj hm
    exact j_iret G E d_S_sealedCount_20 ⟨by decide, by decide⟩ ⟨rfl, rfl⟩
  clear ho2
  have hm := hj2
  clear hj2
  refine j_ifnonnull (tgt := 14) G d_S_sealedCount_4 rfl (fun hc => ?_) (fun hc => ?_)
  · rw [if_neg hc] at hm
    refine j_aload_n G d_S_sealedCount_14 rfl ?_
    obtain ⟨v3, hv3, hm⟩ := Option.bind_eq_some_iff.mp hm
    refine j_gI G d_S_sealedCount_15 fl_S_18 hv3 ?_
    refine j_iconst (v := 1) G d_S_sealedCount_18 (by decide) ?_
    refine j_isub G d_S_sealedCount_19 ?_
    obtain rfl := Option.some.inj hm
    refine j_lv [] rfl ?_
    exact hJ2
  · rw [if_pos hc] at hm
    refine j_aload_n G d_S_sealedCount_7 rfl ?_
    obtain ⟨v4, hv4, hm⟩ := Option.bind_eq_some_iff.mp hm
    refine j_gI G d_S_sealedCount_8 fl_S_18 hv4 ?_
    refine j_goto (tgt := 20) G d_S_sealedCount_11 rfl ?_
    obtain rfl := Option.some.inj hm
    refine j_lv [] rfl ?_
    exact hJ2
noncomputable def f_G_begin (w : aw_W) (o : Option Nat) (p1 : Int32) : Option (aw_W) :=
  (aw_pV w o 2 2 (.int p1)).bind fun v1 =>
  (aw_pV v1 o 2 1 (.int (0 : Int32))).bind fun v2 =>
  (aw_pV v2 o 2 3 (.int (0 : Int32))).bind fun v3 =>
  (aw_pV v3 o 2 4 (.int (0 : Int32))).bind fun v4 =>
  some v4
abbrev rm_G_begin : Room := { frames := 0, cells := 0, slots := 0, locals := 0 }
set_option maxRecDepth 100000 in
set_option maxHeartbeats 4000000 in
theorem c_G_begin (l : Launch) (hl : l.stackTraces = false) (D : va_G) (dA : Nat → ClassId) (base : Nat) (w : aw_W) (o : Option Nat) (p1 : Int32) (r : aw_W) (hm : f_G_begin w o p1 = some r) : aj_Ct l D dA base m_G_begin rm_G_begin [aRf o, aI p1] w (fun v w' => none = v ∧ r = w') := by
  refine aj_enter hl (by decide) (Nat.le_of_ble_eq_true rfl) ?_
  intro Γ G E
  unfold f_G_begin at hm
  refine j_aload_n G d_G_begin_0 rfl ?_
  refine j_iload_n G d_G_begin_1 rfl ?_
  obtain ⟨v1, hv1, hm⟩ := Option.bind_eq_some_iff.mp hm
  refine j_pV (ty := aY_G 2) G d_G_begin_2 fl_G_18 ac_G (aw_T_of_G 2 (by decide) rfl) rfl rfl hv1 ?_
  refine j_aload_n G d_G_begin_5 rfl ?_
  refine j_iconst (v := 0) G d_G_begin_6 (by decide) ?_
  obtain ⟨v2, hv2, hm⟩ := Option.bind_eq_some_iff.mp hm
  refine j_pV (ty := aY_G 1) G d_G_begin_7 fl_G_22 ac_G (aw_T_of_G 1 (by decide) rfl) rfl rfl hv2 ?_
  refine j_aload_n G d_G_begin_10 rfl ?_
  refine j_iconst (v := 0) G d_G_begin_11 (by decide) ?_
  obtain ⟨v3, hv3, hm⟩ := Option.bind_eq_some_iff.mp hm
  refine j_pV (ty := aY_G 3) G d_G_begin_12 fl_G_25 ac_G (aw_T_of_G 3 (by decide) rfl) rfl rfl hv3 ?_
  refine j_aload_n G d_G_begin_15 rfl ?_
  refine j_iconst (v := 0) G d_G_begin_16 (by decide) ?_
  obtain ⟨v4, hv4, hm⟩ := Option.bind_eq_some_iff.mp hm
  refine j_pV (ty := aY_G 4) G d_G_begin_17 fl_G_28 ac_G (aw_T_of_G 4 (by decide) rfl) rfl rfl hv4 ?_
  obtain rfl := Option.some.inj hm
  exact j_vret G E d_G_begin_20 ⟨by decide, by decide⟩ ⟨rfl, rfl⟩
noncomputable def f_G_cameToAll (w : aw_W) (o : Option Nat) (p1 : Option Nat) : Option (Int32 × aw_W) :=
  (aw_wh (σ := aw_W) (τ := (aw_W) ⊕ (Int32 × aw_W)) (fun s1 =>
    (aw_gI s1 o 2 3).bind fun v2 =>
    (aw_gI s1 o 2 2).bind fun v3 =>
    if v3 ≤ v2 then
      some (.inr (.inl s1))
    else
      (aw_gI s1 o 2 3).bind fun v4 =>
      (aw_obj s1 p1 5).bind fun v5 =>
      (f_S_at s1 p1 v4).bind fun v6 =>
      if v6 = none then
        (aw_gI s1 o 2 3).bind fun v7 =>
        (aw_pV s1 o 2 3 (.int (v7 + (1 : Int32)))).bind fun v8 =>
        (aw_pV v8 o 2 4 (.int (0 : Int32))).bind fun v9 =>
        some (.inl v9)
      else
        (aw_gI s1 o 2 4).bind fun v10 =>
        (aw_obj s1 v6 6).bind fun v11 =>
        (f_F_recordCount s1 v6).bind fun v12 =>
        if v12 ≤ v10 then
          (aw_gI s1 o 2 3).bind fun v13 =>
          (aw_pV s1 o 2 3 (.int (v13 + (1 : Int32)))).bind fun v14 =>
          (aw_pV v14 o 2 4 (.int (0 : Int32))).bind fun v15 =>
          some (.inl v15)
        else
          some (.inr (.inr ((0 : Int32), s1)))) w).bind fun e16 =>
  match e16 with
  | .inl s17 =>
    some ((1 : Int32), s17)
  | .inr r18 => some r18
abbrev rm_G_cameToAll : Room := { frames := 1, cells := 0, slots := 0, locals := 21 }
set_option maxRecDepth 100000 in
set_option maxHeartbeats 4000000 in
theorem c_G_cameToAll (l : Launch) (hl : l.stackTraces = false) (D : va_G) (dA : Nat → ClassId) (base : Nat) (w : aw_W) (o : Option Nat) (p1 : Option Nat) (r : Int32 × aw_W) (hm : f_G_cameToAll w o p1 = some r) : aj_Ct l D dA base m_G_cameToAll rm_G_cameToAll [aRf o, aRf p1] w (fun v w' => some (aI r.1) = v ∧ r.2 = w') := by
  refine aj_enter hl (by decide) (Nat.le_of_ble_eq_true rfl) ?_
  intro Γ G E
  unfold f_G_cameToAll at hm
  obtain ⟨e1, he1, ho1⟩ := Option.bind_eq_some_iff.mp hm
  clear hm
  refine j_lv [(0, aRf o), (1, aRf p1)] rfl ?_
  refine aw_wh_elim (fun (s : aw_W) => aj_J Γ 3 (0, 0) 0 [(0, aRf o), (1, aRf p1)] [] s) ?_ he1
  intro s1 x1 hm hin1 hout1
  try dsimp only at hm ⊢
  refine j_aload_n G d_G_cameToAll_0 rfl ?_
  obtain ⟨v2, hv2, hm⟩ := Option.bind_eq_some_iff.mp hm
  refine j_gI G d_G_cameToAll_1 fl_G_25 hv2 ?_
  refine j_aload_n G d_G_cameToAll_4 rfl ?_
  obtain ⟨v3, hv3, hm⟩ := Option.bind_eq_some_iff.mp hm
  refine j_gI G d_G_cameToAll_5 fl_G_18 hv3 ?_
  refine j_icmp_ge (tgt := 55) G d_G_cameToAll_8 rfl (fun hc => ?_) (fun hc => ?_)
  · rw [if_pos hc] at hm
    have q1 := hout1 _ (Option.some.inj hm).symm
    clear hin1 hout1
    subst q1
    clear hm
    have hm := ho1
    clear ho1
    try dsimp only at hm
    refine j_iconst (v := 1) G d_G_cameToAll_55 (by decide) ?_
    obtain rfl := Option.some.inj hm
    exact j_zret G E d_G_cameToAll_56 ⟨by decide, by decide⟩ (by decide) ⟨rfl, rfl⟩
  · rw [if_neg hc] at hm
    refine j_aload_n G d_G_cameToAll_11 rfl ?_
    refine j_aload_n G d_G_cameToAll_12 rfl ?_
    obtain ⟨v4, hv4, hm⟩ := Option.bind_eq_some_iff.mp hm
    refine j_gI G d_G_cameToAll_13 fl_G_25 hv4 ?_
    obtain ⟨v5, hv5, hm⟩ := Option.bind_eq_some_iff.mp hm
    obtain ⟨v6, hv6, hm⟩ := Option.bind_eq_some_iff.mp hm
    refine j_callV (As := [aI v4]) G d_G_cameToAll_16 (c_S_at _ G.off _ _ _ _ _ _ _ hv6) mw_S_at mi_S_at lk_G_35 rfl hv5 rfl rfl (Nat.le_of_ble_eq_true rfl) ⟨by decide, by decide⟩ ⟨by decide, by decide⟩ (fun v9 w9 hp => ?_)
    obtain ⟨rfl, rfl⟩ := hp
    refine j_astore_n G d_G_cameToAll_19 (by decide) ?_
    refine j_aload_n G d_G_cameToAll_20 rfl ?_
    refine j_ifnull (tgt := 37) G d_G_cameToAll_21 rfl (fun hc => ?_) (fun hc => ?_)
    · rw [if_pos hc] at hm
      refine j_aload_n G d_G_cameToAll_37 rfl ?_
      refine j_dup G d_G_cameToAll_38 rfl ?_
      obtain ⟨v7, hv7, hm⟩ := Option.bind_eq_some_iff.mp hm
      refine j_gI G d_G_cameToAll_39 fl_G_25 hv7 ?_
      refine j_iconst (v := 1) G d_G_cameToAll_42 (by decide) ?_
      refine j_iadd G d_G_cameToAll_43 ?_
      obtain ⟨v8, hv8, hm⟩ := Option.bind_eq_some_iff.mp hm
      refine j_pV (ty := aY_G 3) G d_G_cameToAll_44 fl_G_25 ac_G (aw_T_of_G 3 (by decide) rfl) rfl rfl hv8 ?_
      refine j_aload_n G d_G_cameToAll_47 rfl ?_
      refine j_iconst (v := 0) G d_G_cameToAll_48 (by decide) ?_
      obtain ⟨v9, hv9, hm⟩ := Option.bind_eq_some_iff.mp hm
      refine j_pV (ty := aY_G 4) G d_G_cameToAll_49 fl_G_28 ac_G (aw_T_of_G 4 (by decide) rfl) rfl rfl hv9 ?_
      refine j_goto (tgt := 0) G d_G_cameToAll_52 rfl ?_
      refine j_lv [(0, aRf o), (1, aRf p1)] rfl ?_
      have z9 := hin1 _ (Option.some.inj hm).symm
      exact z9
    · rw [if_neg hc] at hm
      refine j_aload_n G d_G_cameToAll_24 rfl ?_
      obtain ⟨v10, hv10, hm⟩ := Option.bind_eq_some_iff.mp hm
      refine j_gI G d_G_cameToAll_25 fl_G_28 hv10 ?_
      refine j_aload_n G d_G_cameToAll_28 rfl ?_
      obtain ⟨v11, hv11, hm⟩ := Option.bind_eq_some_iff.mp hm
      obtain ⟨v12, hv12, hm⟩ := Option.bind_eq_some_iff.mp hm
      refine j_callV (As := []) G d_G_cameToAll_29 (c_F_recordCount _ G.off _ _ _ _ _ _ hv12) mw_F_recordCount mi_F_recordCount lk_G_64 rfl hv11 rfl rfl (Nat.le_of_ble_eq_true rfl) ⟨by decide, by decide⟩ ⟨by decide, by decide⟩ (fun v9 w9 hp => ?_)
      obtain ⟨rfl, rfl⟩ := hp
      refine j_icmp_ge (tgt := 37) G d_G_cameToAll_32 rfl (fun hc => ?_) (fun hc => ?_)
      · rw [if_pos hc] at hm
        refine j_aload_n G d_G_cameToAll_37 rfl ?_
        refine j_dup G d_G_cameToAll_38 rfl ?_
        obtain ⟨v13, hv13, hm⟩ := Option.bind_eq_some_iff.mp hm
        refine j_gI G d_G_cameToAll_39 fl_G_25 hv13 ?_
        refine j_iconst (v := 1) G d_G_cameToAll_42 (by decide) ?_
        refine j_iadd G d_G_cameToAll_43 ?_
        obtain ⟨v14, hv14, hm⟩ := Option.bind_eq_some_iff.mp hm
        refine j_pV (ty := aY_G 3) G d_G_cameToAll_44 fl_G_25 ac_G (aw_T_of_G 3 (by decide) rfl) rfl rfl hv14 ?_
        refine j_aload_n G d_G_cameToAll_47 rfl ?_
        refine j_iconst (v := 0) G d_G_cameToAll_48 (by decide) ?_
        obtain ⟨v15, hv15, hm⟩ := Option.bind_eq_some_iff.mp hm
        refine j_pV (ty := aY_G 4) G d_G_cameToAll_49 fl_G_28 ac_G (aw_T_of_G 4 (by decide) rfl) rfl rfl hv15 ?_
        refine j_goto (tgt := 0) G d_G_cameToAll_52 rfl ?_
        refine j_lv [(0, aRf o), (1, aRf p1)] rfl ?_
        have z9 := hin1 _ (Option.some.inj hm).symm
        exact z9
      · rw [if_neg hc] at hm
        refine j_iconst (v := 0) G d_G_cameToAll_35 (by decide) ?_
        have q1 := hout1 _ (Option.some.inj hm).symm
        clear hin1 hout1
        subst q1
        clear hm
        have hm := ho1
        clear ho1
        try dsimp only at hm
        obtain rfl := Option.some.inj hm
        exact j_zret G E d_G_cameToAll_36 ⟨by decide, by decide⟩ (by decide) ⟨rfl, rfl⟩
noncomputable def f_G_outputFor (w : aw_W) (o : Option Nat) (p1 : Int32) : Option ((Option Nat) × aw_W) :=
  (aw_gI w o 2 1).bind fun v1 =>
  (if v1 ≤ 0 then
      some (0 : Int32)
    else
      (aw_gR w o 2 0).bind fun v2 =>
      (aw_gI w o 2 1).bind fun v3 =>
      (aw_aR w v2 5 (v3 - (1 : Int32))).bind fun v4 =>
      (aw_obj w v4 6).bind fun v5 =>
      (f_F_bytes w v4).bind fun v6 =>
      (aw_obj w v6 3).bind fun v7 =>
      (f_O_hasRoomFor w v6 p1).bind fun v8 =>
      if v8 = 0 then
        some (0 : Int32)
      else
        some (1 : Int32) : Option (Int32)).bind fun j9 =>
  (if j9 = 0 then
      (aw_gI w o 2 1).bind fun v10 =>
      (aw_gR w o 2 0).bind fun v11 =>
      (aw_len w v11 5).bind fun v12 =>
      if v12 ≤ v10 then
        some w
      else
        (aw_gR w o 2 0).bind fun v13 =>
        (aw_gI w o 2 1).bind fun v14 =>
        (aw_aR w v13 5 v14).bind fun v15 =>
        (aw_obj w v15 6).bind fun v16 =>
        (f_F_begin w v15 (0 : Int32)).bind fun v17 =>
        (aw_gI v17 o 2 1).bind fun v18 =>
        (aw_pV v17 o 2 1 (.int (v18 + (1 : Int32)))).bind fun v19 =>
        some v19
    else
      some w : Option (aw_W)).bind fun j20 =>
  (aw_gR j20 o 2 0).bind fun v21 =>
  (aw_gI j20 o 2 1).bind fun v22 =>
  (aw_aR j20 v21 5 (v22 - (1 : Int32))).bind fun v23 =>
  some (v23, j20)
abbrev rm_G_outputFor : Room := { frames := 2, cells := 0, slots := 0, locals := 42 }
set_option maxRecDepth 100000 in
set_option maxHeartbeats 4000000 in
theorem c_G_outputFor (l : Launch) (hl : l.stackTraces = false) (D : va_G) (dA : Nat → ClassId) (base : Nat) (w : aw_W) (o : Option Nat) (p1 : Int32) (r : (Option Nat) × aw_W) (hm : f_G_outputFor w o p1 = some r) : aj_Ct l D dA base m_G_outputFor rm_G_outputFor [aRf o, aI p1] w (fun v w' => some (aRf r.1) = v ∧ r.2 = w') := by
  refine aj_enter hl (by decide) (Nat.le_of_ble_eq_true rfl) ?_
  intro Γ G E
  unfold f_G_outputFor at hm
  refine j_aload_n G d_G_outputFor_0 rfl ?_
  obtain ⟨v1, hv1, hm⟩ := Option.bind_eq_some_iff.mp hm
  refine j_gI G d_G_outputFor_1 fl_G_22 hv1 ?_
  obtain ⟨j2, hj2, ho2⟩ := Option.bind_eq_some_iff.mp hm
  clear hm
  have hJ2 : aj_J Γ 3 (0, 0) 33 [(0, aRf o)] [aI j2] w := by
    clear hj2
    have hm := ho2
    clear ho2
    refine j_istore_n G d_G_outputFor_33 (by decide) ?_
    refine j_iload_n G d_G_outputFor_34 rfl ?_
    obtain ⟨j3, hj3, ho3⟩ := Option.bind_eq_some_iff.mp hm
    clear hm
    have hJ3 : aj_J Γ 3 (0, 0) 73 [(0, aRf o)] [] j3 := by
      clear hj3
      have hm := ho3
      clear ho3
      refine j_aload_n G d_G_outputFor_73 rfl ?_
      obtain ⟨v4, hv4, hm⟩ := Option.bind_eq_some_iff.mp hm
      refine j_gR G d_G_outputFor_74 fl_G_11 hv4 ?_
      refine j_aload_n G d_G_outputFor_77 rfl ?_
      obtain ⟨v5, hv5, hm⟩ := Option.bind_eq_some_iff.mp hm
      refine j_gI G d_G_outputFor_78 fl_G_22 hv5 ?_
      refine j_iconst (v := 1) G d_G_outputFor_81 (by decide) ?_
      refine j_isub G d_G_outputFor_82 ?_
      obtain ⟨v6, hv6, hm⟩ := Option.bind_eq_some_iff.mp hm
      refine j_aald (C := "AppendStore$StoreFile") G d_G_outputFor_83 rfl hv6 ?_
      obtain rfl := Option.some.inj hm
      exact j_aret G E d_G_outputFor_84 ⟨by decide, by decide⟩ ⟨rfl, rfl⟩
    clear ho3
    have hm := hj3
    clear hj3
    refine j_if_ne (tgt := 73) G d_G_outputFor_35 rfl (fun hc => ?_) (fun hc => ?_)
    · rw [if_neg hc] at hm
      obtain rfl := Option.some.inj hm
      refine j_lv [(0, aRf o)] rfl ?_
      exact hJ3
    · rw [if_pos hc] at hm
      refine j_aload_n G d_G_outputFor_38 rfl ?_
      obtain ⟨v7, hv7, hm⟩ := Option.bind_eq_some_iff.mp hm
      refine j_gI G d_G_outputFor_39 fl_G_22 hv7 ?_
      refine j_aload_n G d_G_outputFor_42 rfl ?_
      obtain ⟨v8, hv8, hm⟩ := Option.bind_eq_some_iff.mp hm
      refine j_gR G d_G_outputFor_43 fl_G_11 hv8 ?_
      obtain ⟨v9, hv9, hm⟩ := Option.bind_eq_some_iff.mp hm
      refine j_alen G d_G_outputFor_46 rfl hv9 ?_
      refine j_icmp_ge (tgt := 73) G d_G_outputFor_47 rfl (fun hc => ?_) (fun hc => ?_)
      · rw [if_pos hc] at hm
        obtain rfl := Option.some.inj hm
        refine j_lv [(0, aRf o)] rfl ?_
        exact hJ3
      · rw [if_neg hc] at hm
        refine j_aload_n G d_G_outputFor_50 rfl ?_
        obtain ⟨v10, hv10, hm⟩ := Option.bind_eq_some_iff.mp hm
        refine j_gR G d_G_outputFor_51 fl_G_11 hv10 ?_
        refine j_aload_n G d_G_outputFor_54 rfl ?_
        obtain ⟨v11, hv11, hm⟩ := Option.bind_eq_some_iff.mp hm
        refine j_gI G d_G_outputFor_55 fl_G_22 hv11 ?_
        obtain ⟨v12, hv12, hm⟩ := Option.bind_eq_some_iff.mp hm
        refine j_aald (C := "AppendStore$StoreFile") G d_G_outputFor_58 rfl hv12 ?_
        refine j_iconst (v := 0) G d_G_outputFor_59 (by decide) ?_
        obtain ⟨v13, hv13, hm⟩ := Option.bind_eq_some_iff.mp hm
        obtain ⟨v14, hv14, hm⟩ := Option.bind_eq_some_iff.mp hm
        refine j_callV (As := [aI (0 : Int32)]) G d_G_outputFor_60 (c_F_begin _ G.off _ _ _ _ _ _ _ hv14) mw_F_begin mi_F_begin lk_G_106 rfl hv13 rfl rfl (Nat.le_of_ble_eq_true rfl) ⟨by decide, by decide⟩ ⟨by decide, by decide⟩ (fun v9 w9 hp => ?_)
        obtain ⟨rfl, rfl⟩ := hp
        refine j_aload_n G d_G_outputFor_63 rfl ?_
        refine j_dup G d_G_outputFor_64 rfl ?_
        obtain ⟨v15, hv15, hm⟩ := Option.bind_eq_some_iff.mp hm
        refine j_gI G d_G_outputFor_65 fl_G_22 hv15 ?_
        refine j_iconst (v := 1) G d_G_outputFor_68 (by decide) ?_
        refine j_iadd G d_G_outputFor_69 ?_
        obtain ⟨v16, hv16, hm⟩ := Option.bind_eq_some_iff.mp hm
        refine j_pV (ty := aY_G 1) G d_G_outputFor_70 fl_G_22 ac_G (aw_T_of_G 1 (by decide) rfl) rfl rfl hv16 ?_
        obtain rfl := Option.some.inj hm
        refine j_lv [(0, aRf o)] rfl ?_
        exact hJ3
  clear ho2
  have hm := hj2
  clear hj2
  refine j_if_le (tgt := 32) G d_G_outputFor_4 rfl (fun hc => ?_) (fun hc => ?_)
  · rw [if_pos hc] at hm
    refine j_iconst (v := 0) G d_G_outputFor_32 (by decide) ?_
    obtain rfl := Option.some.inj hm
    refine j_lv [(0, aRf o)] rfl ?_
    exact hJ2
  · rw [if_neg hc] at hm
    refine j_aload_n G d_G_outputFor_7 rfl ?_
    obtain ⟨v17, hv17, hm⟩ := Option.bind_eq_some_iff.mp hm
    refine j_gR G d_G_outputFor_8 fl_G_11 hv17 ?_
    refine j_aload_n G d_G_outputFor_11 rfl ?_
    obtain ⟨v18, hv18, hm⟩ := Option.bind_eq_some_iff.mp hm
    refine j_gI G d_G_outputFor_12 fl_G_22 hv18 ?_
    refine j_iconst (v := 1) G d_G_outputFor_15 (by decide) ?_
    refine j_isub G d_G_outputFor_16 ?_
    obtain ⟨v19, hv19, hm⟩ := Option.bind_eq_some_iff.mp hm
    refine j_aald (C := "AppendStore$StoreFile") G d_G_outputFor_17 rfl hv19 ?_
    obtain ⟨v20, hv20, hm⟩ := Option.bind_eq_some_iff.mp hm
    obtain ⟨v21, hv21, hm⟩ := Option.bind_eq_some_iff.mp hm
    refine j_callV (As := []) G d_G_outputFor_18 (c_F_bytes _ G.off _ _ _ _ _ _ hv21) mw_F_bytes mi_F_bytes lk_G_96 rfl hv20 rfl rfl (Nat.le_of_ble_eq_true rfl) ⟨by decide, by decide⟩ ⟨by decide, by decide⟩ (fun v9 w9 hp => ?_)
    obtain ⟨rfl, rfl⟩ := hp
    refine j_iload_n G d_G_outputFor_21 rfl ?_
    obtain ⟨v22, hv22, hm⟩ := Option.bind_eq_some_iff.mp hm
    obtain ⟨v23, hv23, hm⟩ := Option.bind_eq_some_iff.mp hm
    refine j_callV (As := [aI p1]) G d_G_outputFor_22 (c_O_hasRoomFor _ G.off _ _ _ _ _ _ _ hv23) mw_O_hasRoomFor mi_O_hasRoomFor lk_G_100 rfl hv22 rfl rfl (Nat.le_of_ble_eq_true rfl) ⟨by decide, by decide⟩ ⟨by decide, by decide⟩ (fun v9 w9 hp => ?_)
    obtain ⟨rfl, rfl⟩ := hp
    refine j_if_eq (tgt := 32) G d_G_outputFor_25 rfl (fun hc => ?_) (fun hc => ?_)
    · rw [if_pos hc] at hm
      refine j_iconst (v := 0) G d_G_outputFor_32 (by decide) ?_
      obtain rfl := Option.some.inj hm
      refine j_lv [(0, aRf o)] rfl ?_
      exact hJ2
    · rw [if_neg hc] at hm
      refine j_iconst (v := 1) G d_G_outputFor_28 (by decide) ?_
      refine j_goto (tgt := 33) G d_G_outputFor_29 rfl ?_
      obtain rfl := Option.some.inj hm
      refine j_lv [(0, aRf o)] rfl ?_
      exact hJ2
noncomputable def f_G_advance (w : aw_W) (o : Option Nat) (p1 : Int32) (p2 : Option Nat) (p3 : Option Nat) : Option (aw_W) :=
  (aw_wh (σ := Int32 × aw_W) (τ := Int32 × aw_W) (fun s1 =>
    if p1 ≤ s1.1 then
      some (.inr (s1.1, s1.2))
    else
      (aw_obj s1.2 o 2).bind fun v2 =>
      (f_G_cameToAll s1.2 o p2).bind fun v3 =>
      if v3.1 = 0 then
        (aw_gI v3.2 o 2 3).bind fun v4 =>
        (aw_obj v3.2 p2 5).bind fun v5 =>
        (f_S_at v3.2 p2 v4).bind fun v6 =>
        (if v6 = none then
            some none
          else
            (aw_gI v3.2 o 2 4).bind fun v7 =>
            (aw_obj v3.2 v6 6).bind fun v8 =>
            (f_F_record v3.2 v6 v7).bind fun v9 =>
            some v9 : Option (Option Nat)).bind fun j10 =>
        (if j10 = none then
            some v3.2
          else
            (aw_obj v3.2 p3 1).bind fun v11 =>
            (f_D_has v3.2 p3 j10).bind fun v12 =>
            if v12 = 0 then
              some v3.2
            else
              (aw_obj v3.2 j10 4).bind fun v13 =>
              (f_R_size v3.2 j10).bind fun v14 =>
              (aw_obj v3.2 o 2).bind fun v15 =>
              (f_G_outputFor v3.2 o v14).bind fun v16 =>
              (aw_obj v16.2 v16.1 6).bind fun v17 =>
              (f_F_appendCopy v16.2 v16.1 j10).bind fun v18 =>
              some v18 : Option (aw_W)).bind fun j19 =>
        (aw_gI j19 o 2 4).bind fun v20 =>
        (aw_pV j19 o 2 4 (.int (v20 + (1 : Int32)))).bind fun v21 =>
        some (.inl (s1.1 + 1, v21))
      else
        some (.inr (s1.1, v3.2))) ((0 : Int32), w)).bind fun e22 =>
  some e22.2
abbrev rm_G_advance : Room := { frames := 5, cells := 0, slots := 0, locals := 104 }
set_option maxRecDepth 100000 in
set_option maxHeartbeats 4000000 in
theorem c_G_advance (l : Launch) (hl : l.stackTraces = false) (D : va_G) (dA : Nat → ClassId) (base : Nat) (w : aw_W) (o : Option Nat) (p1 : Int32) (p2 : Option Nat) (p3 : Option Nat) (r : aw_W) (hm : f_G_advance w o p1 p2 p3 = some r) : aj_Ct l D dA base m_G_advance rm_G_advance [aRf o, aI p1, aRf p2, aRf p3] w (fun v w' => none = v ∧ r = w') := by
  refine aj_enter hl (by decide) (Nat.le_of_ble_eq_true rfl) ?_
  intro Γ G E
  unfold f_G_advance at hm
  refine j_iconst (v := 0) G d_G_advance_0 (by decide) ?_
  refine j_istore G d_G_advance_1 (by decide) ?_
  obtain ⟨e1, he1, ho1⟩ := Option.bind_eq_some_iff.mp hm
  clear hm
  refine j_lv [(0, aRf o), (1, aI p1), (2, aRf p2), (3, aRf p3), (4, aI (0 : Int32))] rfl ?_
  refine aw_wh_elim (fun (s : Int32 × aw_W) => aj_J Γ 7 (0, 0) 3 [(0, aRf o), (1, aI p1), (2, aRf p2), (3, aRf p3), (4, aI s.1)] [] s.2) ?_ he1
  intro s1 x1 hm hin1 hout1
  try dsimp only at hm ⊢
  refine j_iload G d_G_advance_3 rfl ?_
  refine j_iload_n G d_G_advance_5 rfl ?_
  refine j_icmp_ge (tgt := 91) G d_G_advance_6 rfl (fun hc => ?_) (fun hc => ?_)
  · rw [if_pos hc] at hm
    have q1 := hout1 _ (Option.some.inj hm).symm
    clear hin1 hout1
    subst q1
    clear hm
    have hm := ho1
    clear ho1
    try dsimp only at hm
    obtain rfl := Option.some.inj hm
    exact j_vret G E d_G_advance_91 ⟨by decide, by decide⟩ ⟨rfl, rfl⟩
  · rw [if_neg hc] at hm
    refine j_aload_n G d_G_advance_9 rfl ?_
    refine j_aload_n G d_G_advance_10 rfl ?_
    obtain ⟨v2, hv2, hm⟩ := Option.bind_eq_some_iff.mp hm
    obtain ⟨v3, hv3, hm⟩ := Option.bind_eq_some_iff.mp hm
    refine j_callV (As := [aRf p2]) G d_G_advance_11 (c_G_cameToAll _ G.off _ _ _ _ _ _ _ hv3) mw_G_cameToAll mi_G_cameToAll lk_G_31 rfl hv2 rfl rfl (Nat.le_of_ble_eq_true rfl) ⟨by decide, by decide⟩ ⟨by decide, by decide⟩ (fun v9 w9 hp => ?_)
    obtain ⟨rfl, rfl⟩ := hp
    refine j_if_ne (tgt := 91) G d_G_advance_14 rfl (fun hc => ?_) (fun hc => ?_)
    · rw [if_neg hc] at hm
      have q1 := hout1 _ (Option.some.inj hm).symm
      clear hin1 hout1
      subst q1
      clear hm
      have hm := ho1
      clear ho1
      try dsimp only at hm
      obtain rfl := Option.some.inj hm
      exact j_vret G E d_G_advance_91 ⟨by decide, by decide⟩ ⟨rfl, rfl⟩
    · rw [if_pos hc] at hm
      refine j_aload_n G d_G_advance_17 rfl ?_
      refine j_aload_n G d_G_advance_18 rfl ?_
      obtain ⟨v4, hv4, hm⟩ := Option.bind_eq_some_iff.mp hm
      refine j_gI G d_G_advance_19 fl_G_25 hv4 ?_
      obtain ⟨v5, hv5, hm⟩ := Option.bind_eq_some_iff.mp hm
      obtain ⟨v6, hv6, hm⟩ := Option.bind_eq_some_iff.mp hm
      refine j_callV (As := [aI v4]) G d_G_advance_22 (c_S_at _ G.off _ _ _ _ _ _ _ hv6) mw_S_at mi_S_at lk_G_35 rfl hv5 rfl rfl (Nat.le_of_ble_eq_true rfl) ⟨by decide, by decide⟩ ⟨by decide, by decide⟩ (fun v9 w9 hp => ?_)
      obtain ⟨rfl, rfl⟩ := hp
      refine j_astore G d_G_advance_25 (by decide) ?_
      refine j_aload G d_G_advance_27 rfl ?_
      obtain ⟨j7, hj7, ho7⟩ := Option.bind_eq_some_iff.mp hm
      clear hm
      have hJ7 : aj_J Γ 7 (0, 0) 45 [(0, aRf o), (1, aI p1), (2, aRf p2), (3, aRf p3), (4, aI s1.1)] [aRf j7] v3.2 := by
        clear hj7
        have hm := ho7
        clear ho7
        refine j_astore G d_G_advance_45 (by decide) ?_
        refine j_aload G d_G_advance_47 rfl ?_
        obtain ⟨j8, hj8, ho8⟩ := Option.bind_eq_some_iff.mp hm
        clear hm
        have hJ8 : aj_J Γ 7 (0, 0) 75 [(0, aRf o), (1, aI p1), (2, aRf p2), (3, aRf p3), (4, aI s1.1)] [] j8 := by
          clear hj8
          have hm := ho8
          clear ho8
          refine j_aload_n G d_G_advance_75 rfl ?_
          refine j_dup G d_G_advance_76 rfl ?_
          obtain ⟨v9, hv9, hm⟩ := Option.bind_eq_some_iff.mp hm
          refine j_gI G d_G_advance_77 fl_G_28 hv9 ?_
          refine j_iconst (v := 1) G d_G_advance_80 (by decide) ?_
          refine j_iadd G d_G_advance_81 ?_
          obtain ⟨v10, hv10, hm⟩ := Option.bind_eq_some_iff.mp hm
          refine j_pV (ty := aY_G 4) G d_G_advance_82 fl_G_28 ac_G (aw_T_of_G 4 (by decide) rfl) rfl rfl hv10 ?_
          refine j_iinc (v := s1.1 + 1) G d_G_advance_85 rfl (by first | rfl | decide) (by decide) ?_
          refine j_goto (tgt := 3) G d_G_advance_88 rfl ?_
          refine j_lv [(0, aRf o), (1, aI p1), (2, aRf p2), (3, aRf p3), (4, aI (s1.1 + 1))] rfl ?_
          have z9 := hin1 _ (Option.some.inj hm).symm
          exact z9
        clear ho8
        have hm := hj8
        clear hj8
        refine j_ifnull (tgt := 75) G d_G_advance_49 rfl (fun hc => ?_) (fun hc => ?_)
        · rw [if_pos hc] at hm
          obtain rfl := Option.some.inj hm
          refine j_lv [(0, aRf o), (1, aI p1), (2, aRf p2), (3, aRf p3), (4, aI s1.1)] rfl ?_
          exact hJ8
        · rw [if_neg hc] at hm
          refine j_aload_n G d_G_advance_52 rfl ?_
          refine j_aload G d_G_advance_53 rfl ?_
          obtain ⟨v11, hv11, hm⟩ := Option.bind_eq_some_iff.mp hm
          obtain ⟨v12, hv12, hm⟩ := Option.bind_eq_some_iff.mp hm
          refine j_callV (As := [aRf j7]) G d_G_advance_55 (c_D_has _ G.off _ _ _ _ _ _ _ hv12) mw_D_has mi_D_has lk_G_45 rfl hv11 rfl rfl (Nat.le_of_ble_eq_true rfl) ⟨by decide, by decide⟩ ⟨by decide, by decide⟩ (fun v9 w9 hp => ?_)
          obtain ⟨rfl, rfl⟩ := hp
          refine j_if_eq (tgt := 75) G d_G_advance_58 rfl (fun hc => ?_) (fun hc => ?_)
          · rw [if_pos hc] at hm
            obtain rfl := Option.some.inj hm
            refine j_lv [(0, aRf o), (1, aI p1), (2, aRf p2), (3, aRf p3), (4, aI s1.1)] rfl ?_
            exact hJ8
          · rw [if_neg hc] at hm
            refine j_aload_n G d_G_advance_61 rfl ?_
            refine j_aload G d_G_advance_62 rfl ?_
            obtain ⟨v13, hv13, hm⟩ := Option.bind_eq_some_iff.mp hm
            obtain ⟨v14, hv14, hm⟩ := Option.bind_eq_some_iff.mp hm
            refine j_callV (As := []) G d_G_advance_64 (c_R_size _ G.off _ _ _ _ _ _ hv14) mw_R_size mi_R_size lk_G_51 rfl hv13 rfl rfl (Nat.le_of_ble_eq_true rfl) ⟨by decide, by decide⟩ ⟨by decide, by decide⟩ (fun v9 w9 hp => ?_)
            obtain ⟨rfl, rfl⟩ := hp
            obtain ⟨v15, hv15, hm⟩ := Option.bind_eq_some_iff.mp hm
            obtain ⟨v16, hv16, hm⟩ := Option.bind_eq_some_iff.mp hm
            refine j_callV (As := [aI v14]) G d_G_advance_67 (c_G_outputFor _ G.off _ _ _ _ _ _ _ hv16) mw_G_outputFor mi_G_outputFor lk_G_57 rfl hv15 rfl rfl (Nat.le_of_ble_eq_true rfl) ⟨by decide, by decide⟩ ⟨by decide, by decide⟩ (fun v9 w9 hp => ?_)
            obtain ⟨rfl, rfl⟩ := hp
            refine j_aload G d_G_advance_70 rfl ?_
            obtain ⟨v17, hv17, hm⟩ := Option.bind_eq_some_iff.mp hm
            obtain ⟨v18, hv18, hm⟩ := Option.bind_eq_some_iff.mp hm
            refine j_callV (As := [aRf j7]) G d_G_advance_72 (c_F_appendCopy _ G.off _ _ _ _ _ _ _ hv18) mw_F_appendCopy mi_F_appendCopy lk_G_60 rfl hv17 rfl rfl (Nat.le_of_ble_eq_true rfl) ⟨by decide, by decide⟩ ⟨by decide, by decide⟩ (fun v9 w9 hp => ?_)
            obtain ⟨rfl, rfl⟩ := hp
            obtain rfl := Option.some.inj hm
            refine j_lv [(0, aRf o), (1, aI p1), (2, aRf p2), (3, aRf p3), (4, aI s1.1)] rfl ?_
            exact hJ8
      clear ho7
      have hm := hj7
      clear hj7
      refine j_ifnonnull (tgt := 36) G d_G_advance_29 rfl (fun hc => ?_) (fun hc => ?_)
      · rw [if_neg hc] at hm
        refine j_aload G d_G_advance_36 rfl ?_
        refine j_aload_n G d_G_advance_38 rfl ?_
        obtain ⟨v19, hv19, hm⟩ := Option.bind_eq_some_iff.mp hm
        refine j_gI G d_G_advance_39 fl_G_28 hv19 ?_
        obtain ⟨v20, hv20, hm⟩ := Option.bind_eq_some_iff.mp hm
        obtain ⟨v21, hv21, hm⟩ := Option.bind_eq_some_iff.mp hm
        refine j_callV (As := [aI v19]) G d_G_advance_42 (c_F_record _ G.off _ _ _ _ _ _ _ hv21) mw_F_record mi_F_record lk_G_41 rfl hv20 rfl rfl (Nat.le_of_ble_eq_true rfl) ⟨by decide, by decide⟩ ⟨by decide, by decide⟩ (fun v9 w9 hp => ?_)
        obtain ⟨rfl, rfl⟩ := hp
        obtain rfl := Option.some.inj hm
        refine j_lv [(0, aRf o), (1, aI p1), (2, aRf p2), (3, aRf p3), (4, aI s1.1)] rfl ?_
        exact hJ7
      · rw [if_pos hc] at hm
        refine j_null G d_G_advance_32 ?_
        refine j_goto (tgt := 45) G d_G_advance_33 rfl ?_
        obtain rfl := Option.some.inj hm
        refine j_lv [(0, aRf o), (1, aI p1), (2, aRf p2), (3, aRf p3), (4, aI s1.1)] rfl ?_
        exact hJ7
noncomputable def f_G_pointToCopies (w : aw_W) (p1 : Option Nat) (p2 : Option Nat) : Option (aw_W) :=
  (aw_wh (σ := Int32 × aw_W) (τ := Int32 × aw_W) (fun s1 =>
    (aw_obj s1.2 p1 6).bind fun v2 =>
    (f_F_recordCount s1.2 p1).bind fun v3 =>
    if v3 ≤ s1.1 then
      some (.inr (s1.1, s1.2))
    else
      (aw_obj s1.2 p1 6).bind fun v4 =>
      (f_F_record s1.2 p1 s1.1).bind fun v5 =>
      (if v5 = none then
          some s1.2
        else
          (aw_gR s1.2 v5 4 4).bind fun v6 =>
          (aw_obj s1.2 p2 1).bind fun v7 =>
          (f_D_replace s1.2 p2 v6 v5).bind fun v8 =>
          some v8 : Option (aw_W)).bind fun j9 =>
      some (.inl (s1.1 + 1, j9))) ((0 : Int32), w)).bind fun e10 =>
  some e10.2
abbrev rm_G_pointToCopies : Room := { frames := 4, cells := 0, slots := 0, locals := 89 }
set_option maxRecDepth 100000 in
set_option maxHeartbeats 4000000 in
theorem c_G_pointToCopies (l : Launch) (hl : l.stackTraces = false) (D : va_G) (dA : Nat → ClassId) (base : Nat) (w : aw_W) (p1 : Option Nat) (p2 : Option Nat) (r : aw_W) (hm : f_G_pointToCopies w p1 p2 = some r) : aj_Ct l D dA base m_G_pointToCopies rm_G_pointToCopies [aRf p1, aRf p2] w (fun v w' => none = v ∧ r = w') := by
  refine aj_enter hl (by decide) (Nat.le_of_ble_eq_true rfl) ?_
  intro Γ G E
  unfold f_G_pointToCopies at hm
  refine j_iconst (v := 0) G d_G_pointToCopies_0 (by decide) ?_
  refine j_istore_n G d_G_pointToCopies_1 (by decide) ?_
  obtain ⟨e1, he1, ho1⟩ := Option.bind_eq_some_iff.mp hm
  clear hm
  refine j_lv [(0, aRf p1), (1, aRf p2), (2, aI (0 : Int32))] rfl ?_
  refine aw_wh_elim (fun (s : Int32 × aw_W) => aj_J Γ 4 (0, 0) 2 [(0, aRf p1), (1, aRf p2), (2, aI s.1)] [] s.2) ?_ he1
  intro s1 x1 hm hin1 hout1
  try dsimp only at hm ⊢
  refine j_iload_n G d_G_pointToCopies_2 rfl ?_
  refine j_aload_n G d_G_pointToCopies_3 rfl ?_
  obtain ⟨v2, hv2, hm⟩ := Option.bind_eq_some_iff.mp hm
  obtain ⟨v3, hv3, hm⟩ := Option.bind_eq_some_iff.mp hm
  refine j_callV (As := []) G d_G_pointToCopies_4 (c_F_recordCount _ G.off _ _ _ _ _ _ hv3) mw_F_recordCount mi_F_recordCount lk_G_64 rfl hv2 rfl rfl (Nat.le_of_ble_eq_true rfl) ⟨by decide, by decide⟩ ⟨by decide, by decide⟩ (fun v9 w9 hp => ?_)
  obtain ⟨rfl, rfl⟩ := hp
  refine j_icmp_ge (tgt := 35) G d_G_pointToCopies_7 rfl (fun hc => ?_) (fun hc => ?_)
  · rw [if_pos hc] at hm
    have q1 := hout1 _ (Option.some.inj hm).symm
    clear hin1 hout1
    subst q1
    clear hm
    have hm := ho1
    clear ho1
    try dsimp only at hm
    obtain rfl := Option.some.inj hm
    exact j_vret G E d_G_pointToCopies_35 ⟨by decide, by decide⟩ ⟨rfl, rfl⟩
  · rw [if_neg hc] at hm
    refine j_aload_n G d_G_pointToCopies_10 rfl ?_
    refine j_iload_n G d_G_pointToCopies_11 rfl ?_
    obtain ⟨v4, hv4, hm⟩ := Option.bind_eq_some_iff.mp hm
    obtain ⟨v5, hv5, hm⟩ := Option.bind_eq_some_iff.mp hm
    refine j_callV (As := [aI s1.1]) G d_G_pointToCopies_12 (c_F_record _ G.off _ _ _ _ _ _ _ hv5) mw_F_record mi_F_record lk_G_41 rfl hv4 rfl rfl (Nat.le_of_ble_eq_true rfl) ⟨by decide, by decide⟩ ⟨by decide, by decide⟩ (fun v9 w9 hp => ?_)
    obtain ⟨rfl, rfl⟩ := hp
    refine j_astore_n G d_G_pointToCopies_15 (by decide) ?_
    refine j_aload_n G d_G_pointToCopies_16 rfl ?_
    obtain ⟨j6, hj6, ho6⟩ := Option.bind_eq_some_iff.mp hm
    clear hm
    have hJ6 : aj_J Γ 4 (0, 0) 29 [(0, aRf p1), (1, aRf p2), (2, aI s1.1)] [] j6 := by
      clear hj6
      have hm := ho6
      clear ho6
      refine j_iinc (v := s1.1 + 1) G d_G_pointToCopies_29 rfl (by first | rfl | decide) (by decide) ?_
      refine j_goto (tgt := 2) G d_G_pointToCopies_32 rfl ?_
      refine j_lv [(0, aRf p1), (1, aRf p2), (2, aI (s1.1 + 1))] rfl ?_
      have z9 := hin1 _ (Option.some.inj hm).symm
      exact z9
    clear ho6
    have hm := hj6
    clear hj6
    refine j_ifnull (tgt := 29) G d_G_pointToCopies_17 rfl (fun hc => ?_) (fun hc => ?_)
    · rw [if_pos hc] at hm
      obtain rfl := Option.some.inj hm
      refine j_lv [(0, aRf p1), (1, aRf p2), (2, aI s1.1)] rfl ?_
      exact hJ6
    · rw [if_neg hc] at hm
      refine j_aload_n G d_G_pointToCopies_20 rfl ?_
      refine j_aload_n G d_G_pointToCopies_21 rfl ?_
      obtain ⟨v7, hv7, hm⟩ := Option.bind_eq_some_iff.mp hm
      refine j_gR G d_G_pointToCopies_22 fl_G_88 hv7 ?_
      refine j_aload_n G d_G_pointToCopies_25 rfl ?_
      obtain ⟨v8, hv8, hm⟩ := Option.bind_eq_some_iff.mp hm
      obtain ⟨v9, hv9, hm⟩ := Option.bind_eq_some_iff.mp hm
      refine j_callV (As := [aRf v7, aRf v5]) G d_G_pointToCopies_26 (c_D_replace _ G.off _ _ _ _ _ _ _ _ hv9) mw_D_replace mi_D_replace lk_G_92 rfl hv8 rfl rfl (Nat.le_of_ble_eq_true rfl) ⟨by decide, by decide⟩ ⟨by decide, by decide⟩ (fun v9 w9 hp => ?_)
      obtain ⟨rfl, rfl⟩ := hp
      obtain rfl := Option.some.inj hm
      refine j_lv [(0, aRf p1), (1, aRf p2), (2, aI s1.1)] rfl ?_
      exact hJ6
noncomputable def f_S_exchange (w : aw_W) (o : Option Nat) (p1 : Int32) (p2 : Option Nat) : Option ((Option Nat) × aw_W) :=
  if p1 < 0 then
    some (p2, w)
  else
    (aw_gI w o 5 1).bind fun v1 =>
    if p1 < v1 then
      (aw_gR w o 5 0).bind fun v2 =>
      (aw_aR w v2 5 p1).bind fun v3 =>
      (aw_gR w o 5 0).bind fun v4 =>
      (aw_obj w p2 6).bind fun v5 =>
      (aw_sR w v4 5 p1 p2).bind fun v6 =>
      some (v3, v6)
    else
      some (p2, w)
abbrev rm_S_exchange : Room := { frames := 0, cells := 0, slots := 0, locals := 0 }
set_option maxRecDepth 100000 in
set_option maxHeartbeats 4000000 in
theorem c_S_exchange (l : Launch) (hl : l.stackTraces = false) (D : va_G) (dA : Nat → ClassId) (base : Nat) (w : aw_W) (o : Option Nat) (p1 : Int32) (p2 : Option Nat) (r : (Option Nat) × aw_W) (hm : f_S_exchange w o p1 p2 = some r) : aj_Ct l D dA base m_S_exchange rm_S_exchange [aRf o, aI p1, aRf p2] w (fun v w' => some (aRf r.1) = v ∧ r.2 = w') := by
  refine aj_enter hl (by decide) (Nat.le_of_ble_eq_true rfl) ?_
  intro Γ G E
  unfold f_S_exchange at hm
  refine j_iload_n G d_S_exchange_0 rfl ?_
  refine j_if_lt (tgt := 12) G d_S_exchange_1 rfl (fun hc => ?_) (fun hc => ?_)
  · rw [if_pos hc] at hm
    refine j_aload_n G d_S_exchange_12 rfl ?_
    obtain rfl := Option.some.inj hm
    exact j_aret G E d_S_exchange_13 ⟨by decide, by decide⟩ ⟨rfl, rfl⟩
  · rw [if_neg hc] at hm
    refine j_iload_n G d_S_exchange_4 rfl ?_
    refine j_aload_n G d_S_exchange_5 rfl ?_
    obtain ⟨v1, hv1, hm⟩ := Option.bind_eq_some_iff.mp hm
    refine j_gI G d_S_exchange_6 fl_S_18 hv1 ?_
    refine j_icmp_lt (tgt := 14) G d_S_exchange_9 rfl (fun hc => ?_) (fun hc => ?_)
    · rw [if_pos hc] at hm
      refine j_aload_n G d_S_exchange_14 rfl ?_
      obtain ⟨v2, hv2, hm⟩ := Option.bind_eq_some_iff.mp hm
      refine j_gR G d_S_exchange_15 fl_S_11 hv2 ?_
      refine j_iload_n G d_S_exchange_18 rfl ?_
      obtain ⟨v3, hv3, hm⟩ := Option.bind_eq_some_iff.mp hm
      refine j_aald (C := "AppendStore$StoreFile") G d_S_exchange_19 rfl hv3 ?_
      refine j_astore_n G d_S_exchange_20 (by decide) ?_
      refine j_aload_n G d_S_exchange_21 rfl ?_
      obtain ⟨v4, hv4, hm⟩ := Option.bind_eq_some_iff.mp hm
      refine j_gR G d_S_exchange_22 fl_S_11 hv4 ?_
      refine j_iload_n G d_S_exchange_25 rfl ?_
      refine j_aload_n G d_S_exchange_26 rfl ?_
      obtain ⟨v5, hv5, hm⟩ := Option.bind_eq_some_iff.mp hm
      obtain ⟨v6, hv6, hm⟩ := Option.bind_eq_some_iff.mp hm
      refine j_aast G d_S_exchange_27 rfl rfl hv5 hv6 ?_
      refine j_aload_n G d_S_exchange_28 rfl ?_
      obtain rfl := Option.some.inj hm
      exact j_aret G E d_S_exchange_29 ⟨by decide, by decide⟩ ⟨rfl, rfl⟩
    · rw [if_neg hc] at hm
      refine j_aload_n G d_S_exchange_12 rfl ?_
      obtain rfl := Option.some.inj hm
      exact j_aret G E d_S_exchange_13 ⟨by decide, by decide⟩ ⟨rfl, rfl⟩
noncomputable def f_S_takeOut (w : aw_W) (o : Option Nat) (p1 : Int32) : Option (aw_W) :=
  if p1 < 0 then
    some w
  else
    (aw_gI w o 5 1).bind fun v1 =>
    if p1 < v1 then
      (aw_gR w o 5 0).bind fun v2 =>
      (aw_aR w v2 5 p1).bind fun v3 =>
      (aw_wh (σ := Int32 × aw_W) (τ := Int32 × aw_W) (fun s4 =>
        (aw_gR s4.2 o 5 0).bind fun v5 =>
        (aw_len s4.2 v5 5).bind fun v6 =>
        if (v6 - (1 : Int32)) ≤ s4.1 then
          some (.inr (s4.1, s4.2))
        else
          (aw_gR s4.2 o 5 0).bind fun v7 =>
          (aw_gR s4.2 o 5 0).bind fun v8 =>
          (aw_aR s4.2 v8 5 (s4.1 + (1 : Int32))).bind fun v9 =>
          (aw_obj s4.2 v9 6).bind fun v10 =>
          (aw_sR s4.2 v7 5 s4.1 v9).bind fun v11 =>
          some (.inl (s4.1 + 1, v11))) (p1, w)).bind fun e12 =>
      (aw_gR e12.2 o 5 0).bind fun v13 =>
      (aw_gR e12.2 o 5 0).bind fun v14 =>
      (aw_len e12.2 v14 5).bind fun v15 =>
      (aw_obj e12.2 v3 6).bind fun v16 =>
      (aw_sR e12.2 v13 5 (v15 - (1 : Int32)) v3).bind fun v17 =>
      (aw_gI v17 o 5 1).bind fun v18 =>
      (aw_pV v17 o 5 1 (.int (v18 - (1 : Int32)))).bind fun v19 =>
      some v19
    else
      some w
abbrev rm_S_takeOut : Room := { frames := 0, cells := 0, slots := 0, locals := 0 }
set_option maxRecDepth 100000 in
set_option maxHeartbeats 4000000 in
theorem c_S_takeOut (l : Launch) (hl : l.stackTraces = false) (D : va_G) (dA : Nat → ClassId) (base : Nat) (w : aw_W) (o : Option Nat) (p1 : Int32) (r : aw_W) (hm : f_S_takeOut w o p1 = some r) : aj_Ct l D dA base m_S_takeOut rm_S_takeOut [aRf o, aI p1] w (fun v w' => none = v ∧ r = w') := by
  refine aj_enter hl (by decide) (Nat.le_of_ble_eq_true rfl) ?_
  intro Γ G E
  unfold f_S_takeOut at hm
  refine j_iload_n G d_S_takeOut_0 rfl ?_
  refine j_if_lt (tgt := 12) G d_S_takeOut_1 rfl (fun hc => ?_) (fun hc => ?_)
  · rw [if_pos hc] at hm
    obtain rfl := Option.some.inj hm
    exact j_vret G E d_S_takeOut_12 ⟨by decide, by decide⟩ ⟨rfl, rfl⟩
  · rw [if_neg hc] at hm
    refine j_iload_n G d_S_takeOut_4 rfl ?_
    refine j_aload_n G d_S_takeOut_5 rfl ?_
    obtain ⟨v1, hv1, hm⟩ := Option.bind_eq_some_iff.mp hm
    refine j_gI G d_S_takeOut_6 fl_S_18 hv1 ?_
    refine j_icmp_lt (tgt := 13) G d_S_takeOut_9 rfl (fun hc => ?_) (fun hc => ?_)
    · rw [if_pos hc] at hm
      refine j_aload_n G d_S_takeOut_13 rfl ?_
      obtain ⟨v2, hv2, hm⟩ := Option.bind_eq_some_iff.mp hm
      refine j_gR G d_S_takeOut_14 fl_S_11 hv2 ?_
      refine j_iload_n G d_S_takeOut_17 rfl ?_
      obtain ⟨v3, hv3, hm⟩ := Option.bind_eq_some_iff.mp hm
      refine j_aald (C := "AppendStore$StoreFile") G d_S_takeOut_18 rfl hv3 ?_
      refine j_astore_n G d_S_takeOut_19 (by decide) ?_
      refine j_iload_n G d_S_takeOut_20 rfl ?_
      refine j_istore_n G d_S_takeOut_21 (by decide) ?_
      obtain ⟨e4, he4, ho4⟩ := Option.bind_eq_some_iff.mp hm
      clear hm
      refine j_lv [(0, aRf o), (2, aRf v3), (3, aI p1)] rfl ?_
      refine aw_wh_elim (fun (s : Int32 × aw_W) => aj_J Γ 4 (0, 0) 22 [(0, aRf o), (2, aRf v3), (3, aI s.1)] [] s.2) ?_ he4
      intro s4 x4 hm hin4 hout4
      try dsimp only at hm ⊢
      refine j_iload_n G d_S_takeOut_22 rfl ?_
      refine j_aload_n G d_S_takeOut_23 rfl ?_
      obtain ⟨v5, hv5, hm⟩ := Option.bind_eq_some_iff.mp hm
      refine j_gR G d_S_takeOut_24 fl_S_11 hv5 ?_
      obtain ⟨v6, hv6, hm⟩ := Option.bind_eq_some_iff.mp hm
      refine j_alen G d_S_takeOut_27 rfl hv6 ?_
      refine j_iconst (v := 1) G d_S_takeOut_28 (by decide) ?_
      refine j_isub G d_S_takeOut_29 ?_
      refine j_icmp_ge (tgt := 53) G d_S_takeOut_30 rfl (fun hc => ?_) (fun hc => ?_)
      · rw [if_pos hc] at hm
        have q4 := hout4 _ (Option.some.inj hm).symm
        clear hin4 hout4
        subst q4
        clear hm
        have hm := ho4
        clear ho4
        try dsimp only at hm
        refine j_aload_n G d_S_takeOut_53 rfl ?_
        obtain ⟨v7, hv7, hm⟩ := Option.bind_eq_some_iff.mp hm
        refine j_gR G d_S_takeOut_54 fl_S_11 hv7 ?_
        refine j_aload_n G d_S_takeOut_57 rfl ?_
        obtain ⟨v8, hv8, hm⟩ := Option.bind_eq_some_iff.mp hm
        refine j_gR G d_S_takeOut_58 fl_S_11 hv8 ?_
        obtain ⟨v9, hv9, hm⟩ := Option.bind_eq_some_iff.mp hm
        refine j_alen G d_S_takeOut_61 rfl hv9 ?_
        refine j_iconst (v := 1) G d_S_takeOut_62 (by decide) ?_
        refine j_isub G d_S_takeOut_63 ?_
        refine j_aload_n G d_S_takeOut_64 rfl ?_
        obtain ⟨v10, hv10, hm⟩ := Option.bind_eq_some_iff.mp hm
        obtain ⟨v11, hv11, hm⟩ := Option.bind_eq_some_iff.mp hm
        refine j_aast G d_S_takeOut_65 rfl rfl hv10 hv11 ?_
        refine j_aload_n G d_S_takeOut_66 rfl ?_
        refine j_dup G d_S_takeOut_67 rfl ?_
        obtain ⟨v12, hv12, hm⟩ := Option.bind_eq_some_iff.mp hm
        refine j_gI G d_S_takeOut_68 fl_S_18 hv12 ?_
        refine j_iconst (v := 1) G d_S_takeOut_71 (by decide) ?_
        refine j_isub G d_S_takeOut_72 ?_
        obtain ⟨v13, hv13, hm⟩ := Option.bind_eq_some_iff.mp hm
        refine j_pV (ty := aY_S 1) G d_S_takeOut_73 fl_S_18 ac_S (aw_T_of_S 1 (by decide) rfl) rfl rfl hv13 ?_
        obtain rfl := Option.some.inj hm
        exact j_vret G E d_S_takeOut_76 ⟨by decide, by decide⟩ ⟨rfl, rfl⟩
      · rw [if_neg hc] at hm
        refine j_aload_n G d_S_takeOut_33 rfl ?_
        obtain ⟨v14, hv14, hm⟩ := Option.bind_eq_some_iff.mp hm
        refine j_gR G d_S_takeOut_34 fl_S_11 hv14 ?_
        refine j_iload_n G d_S_takeOut_37 rfl ?_
        refine j_aload_n G d_S_takeOut_38 rfl ?_
        obtain ⟨v15, hv15, hm⟩ := Option.bind_eq_some_iff.mp hm
        refine j_gR G d_S_takeOut_39 fl_S_11 hv15 ?_
        refine j_iload_n G d_S_takeOut_42 rfl ?_
        refine j_iconst (v := 1) G d_S_takeOut_43 (by decide) ?_
        refine j_iadd G d_S_takeOut_44 ?_
        obtain ⟨v16, hv16, hm⟩ := Option.bind_eq_some_iff.mp hm
        refine j_aald (C := "AppendStore$StoreFile") G d_S_takeOut_45 rfl hv16 ?_
        obtain ⟨v17, hv17, hm⟩ := Option.bind_eq_some_iff.mp hm
        obtain ⟨v18, hv18, hm⟩ := Option.bind_eq_some_iff.mp hm
        refine j_aast G d_S_takeOut_46 rfl rfl hv17 hv18 ?_
        refine j_iinc (v := s4.1 + 1) G d_S_takeOut_47 rfl (by first | rfl | decide) (by decide) ?_
        refine j_goto (tgt := 22) G d_S_takeOut_50 rfl ?_
        refine j_lv [(0, aRf o), (2, aRf v3), (3, aI (s4.1 + 1))] rfl ?_
        have z9 := hin4 _ (Option.some.inj hm).symm
        exact z9
    · rw [if_neg hc] at hm
      obtain rfl := Option.some.inj hm
      exact j_vret G E d_S_takeOut_12 ⟨by decide, by decide⟩ ⟨rfl, rfl⟩
noncomputable def f_G_publish (w : aw_W) (o : Option Nat) (p1 : Option Nat) (p2 : Option Nat) : Option (aw_W) :=
  (aw_wh (σ := Int32 × aw_W) (τ := Int32 × aw_W) (fun s1 =>
    (aw_gI s1.2 o 2 1).bind fun v2 =>
    if v2 ≤ s1.1 then
      some (.inr (s1.1, s1.2))
    else
      (aw_gR s1.2 o 2 0).bind fun v3 =>
      (aw_aR s1.2 v3 5 s1.1).bind fun v4 =>
      (aw_obj s1.2 p1 5).bind fun v5 =>
      (f_S_at s1.2 p1 s1.1).bind fun v6 =>
      (if v6 = none then
          some (0 : Int32)
        else
          (aw_obj s1.2 v6 6).bind fun v7 =>
          (f_F_number s1.2 v6).bind fun v8 =>
          some v8 : Option (Int32)).bind fun j9 =>
      (aw_obj s1.2 v4 6).bind fun v10 =>
      (f_F_publishAs s1.2 v4 j9).bind fun v11 =>
      (f_G_pointToCopies v11 v4 p2).bind fun v12 =>
      (aw_gR v12 o 2 0).bind fun v13 =>
      (aw_obj v12 p1 5).bind fun v14 =>
      (f_S_exchange v12 p1 s1.1 v4).bind fun v15 =>
      (aw_obj v15.2 v15.1 6).bind fun v16 =>
      (aw_sR v15.2 v13 5 s1.1 v15.1).bind fun v17 =>
      some (.inl (s1.1 + 1, v17))) ((0 : Int32), w)).bind fun e18 =>
  (aw_gI e18.2 o 2 1).bind fun v19 =>
  (aw_wh (σ := Int32 × aw_W) (τ := Int32 × aw_W) (fun s20 =>
    (aw_gI s20.2 o 2 2).bind fun v21 =>
    if v21 ≤ s20.1 then
      some (.inr (s20.1, s20.2))
    else
      (aw_gI s20.2 o 2 1).bind fun v22 =>
      (aw_obj s20.2 p1 5).bind fun v23 =>
      (f_S_takeOut s20.2 p1 v22).bind fun v24 =>
      some (.inl (s20.1 + 1, v24))) (v19, e18.2)).bind fun e25 =>
  (aw_obj e25.2 o 2).bind fun v26 =>
  (f_G_drop e25.2 o).bind fun v27 =>
  some v27
abbrev rm_G_publish : Room := { frames := 5, cells := 0, slots := 0, locals := 112 }
set_option maxRecDepth 100000 in
set_option maxHeartbeats 4000000 in
theorem c_G_publish (l : Launch) (hl : l.stackTraces = false) (D : va_G) (dA : Nat → ClassId) (base : Nat) (w : aw_W) (o : Option Nat) (p1 : Option Nat) (p2 : Option Nat) (r : aw_W) (hm : f_G_publish w o p1 p2 = some r) : aj_Ct l D dA base m_G_publish rm_G_publish [aRf o, aRf p1, aRf p2] w (fun v w' => none = v ∧ r = w') := by
  refine aj_enter hl (by decide) (Nat.le_of_ble_eq_true rfl) ?_
  intro Γ G E
  unfold f_G_publish at hm
  refine j_iconst (v := 0) G d_G_publish_0 (by decide) ?_
  refine j_istore_n G d_G_publish_1 (by decide) ?_
  obtain ⟨e1, he1, ho1⟩ := Option.bind_eq_some_iff.mp hm
  clear hm
  refine j_lv [(0, aRf o), (1, aRf p1), (2, aRf p2), (3, aI (0 : Int32))] rfl ?_
  refine aw_wh_elim (fun (s : Int32 × aw_W) => aj_J Γ 6 (0, 0) 2 [(0, aRf o), (1, aRf p1), (2, aRf p2), (3, aI s.1)] [] s.2) ?_ he1
  intro s1 x1 hm hin1 hout1
  try dsimp only at hm ⊢
  refine j_iload_n G d_G_publish_2 rfl ?_
  refine j_aload_n G d_G_publish_3 rfl ?_
  obtain ⟨v2, hv2, hm⟩ := Option.bind_eq_some_iff.mp hm
  refine j_gI G d_G_publish_4 fl_G_22 hv2 ?_
  refine j_icmp_ge (tgt := 69) G d_G_publish_7 rfl (fun hc => ?_) (fun hc => ?_)
  · rw [if_pos hc] at hm
    have q1 := hout1 _ (Option.some.inj hm).symm
    clear hin1 hout1
    subst q1
    clear hm
    have hm := ho1
    clear ho1
    try dsimp only at hm
    refine j_aload_n G d_G_publish_69 rfl ?_
    obtain ⟨v3, hv3, hm⟩ := Option.bind_eq_some_iff.mp hm
    refine j_gI G d_G_publish_70 fl_G_22 hv3 ?_
    refine j_istore_n G d_G_publish_73 (by decide) ?_
    obtain ⟨e4, he4, ho4⟩ := Option.bind_eq_some_iff.mp hm
    clear hm
    refine j_lv [(0, aRf o), (1, aRf p1), (3, aI v3)] rfl ?_
    refine aw_wh_elim (fun (s : Int32 × aw_W) => aj_J Γ 6 (0, 0) 74 [(0, aRf o), (1, aRf p1), (3, aI s.1)] [] s.2) ?_ he4
    intro s4 x4 hm hin4 hout4
    try dsimp only at hm ⊢
    refine j_iload_n G d_G_publish_74 rfl ?_
    refine j_aload_n G d_G_publish_75 rfl ?_
    obtain ⟨v5, hv5, hm⟩ := Option.bind_eq_some_iff.mp hm
    refine j_gI G d_G_publish_76 fl_G_18 hv5 ?_
    refine j_icmp_ge (tgt := 96) G d_G_publish_79 rfl (fun hc => ?_) (fun hc => ?_)
    · rw [if_pos hc] at hm
      have q4 := hout4 _ (Option.some.inj hm).symm
      clear hin4 hout4
      subst q4
      clear hm
      have hm := ho4
      clear ho4
      try dsimp only at hm
      refine j_aload_n G d_G_publish_96 rfl ?_
      obtain ⟨v6, hv6, hm⟩ := Option.bind_eq_some_iff.mp hm
      obtain ⟨v7, hv7, hm⟩ := Option.bind_eq_some_iff.mp hm
      refine j_callV (As := []) G d_G_publish_97 (c_G_drop _ G.off _ _ _ _ _ _ hv7) mw_G_drop mi_G_drop lk_G_85 rfl hv6 rfl rfl (Nat.le_of_ble_eq_true rfl) ⟨by decide, by decide⟩ ⟨by decide, by decide⟩ (fun v9 w9 hp => ?_)
      obtain ⟨rfl, rfl⟩ := hp
      obtain rfl := Option.some.inj hm
      exact j_vret G E d_G_publish_100 ⟨by decide, by decide⟩ ⟨rfl, rfl⟩
    · rw [if_neg hc] at hm
      refine j_aload_n G d_G_publish_82 rfl ?_
      refine j_aload_n G d_G_publish_83 rfl ?_
      obtain ⟨v8, hv8, hm⟩ := Option.bind_eq_some_iff.mp hm
      refine j_gI G d_G_publish_84 fl_G_22 hv8 ?_
      obtain ⟨v9, hv9, hm⟩ := Option.bind_eq_some_iff.mp hm
      obtain ⟨v10, hv10, hm⟩ := Option.bind_eq_some_iff.mp hm
      refine j_callV (As := [aI v8]) G d_G_publish_87 (c_S_takeOut _ G.off _ _ _ _ _ _ _ hv10) mw_S_takeOut mi_S_takeOut lk_G_82 rfl hv9 rfl rfl (Nat.le_of_ble_eq_true rfl) ⟨by decide, by decide⟩ ⟨by decide, by decide⟩ (fun v9 w9 hp => ?_)
      obtain ⟨rfl, rfl⟩ := hp
      refine j_iinc (v := s4.1 + 1) G d_G_publish_90 rfl (by first | rfl | decide) (by decide) ?_
      refine j_goto (tgt := 74) G d_G_publish_93 rfl ?_
      refine j_lv [(0, aRf o), (1, aRf p1), (3, aI (s4.1 + 1))] rfl ?_
      have z9 := hin4 _ (Option.some.inj hm).symm
      exact z9
  · rw [if_neg hc] at hm
    refine j_aload_n G d_G_publish_10 rfl ?_
    obtain ⟨v11, hv11, hm⟩ := Option.bind_eq_some_iff.mp hm
    refine j_gR G d_G_publish_11 fl_G_11 hv11 ?_
    refine j_iload_n G d_G_publish_14 rfl ?_
    obtain ⟨v12, hv12, hm⟩ := Option.bind_eq_some_iff.mp hm
    refine j_aald (C := "AppendStore$StoreFile") G d_G_publish_15 rfl hv12 ?_
    refine j_astore G d_G_publish_16 (by decide) ?_
    refine j_aload_n G d_G_publish_18 rfl ?_
    refine j_iload_n G d_G_publish_19 rfl ?_
    obtain ⟨v13, hv13, hm⟩ := Option.bind_eq_some_iff.mp hm
    obtain ⟨v14, hv14, hm⟩ := Option.bind_eq_some_iff.mp hm
    refine j_callV (As := [aI s1.1]) G d_G_publish_20 (c_S_at _ G.off _ _ _ _ _ _ _ hv14) mw_S_at mi_S_at lk_G_35 rfl hv13 rfl rfl (Nat.le_of_ble_eq_true rfl) ⟨by decide, by decide⟩ ⟨by decide, by decide⟩ (fun v9 w9 hp => ?_)
    obtain ⟨rfl, rfl⟩ := hp
    refine j_astore G d_G_publish_23 (by decide) ?_
    refine j_aload G d_G_publish_25 rfl ?_
    refine j_aload G d_G_publish_27 rfl ?_
    obtain ⟨j15, hj15, ho15⟩ := Option.bind_eq_some_iff.mp hm
    clear hm
    have hJ15 : aj_J Γ 6 (0, 0) 41 [(0, aRf o), (1, aRf p1), (2, aRf p2), (3, aI s1.1), (4, aRf v12)] [aI j15, aRf v12] s1.2 := by
      clear hj15
      have hm := ho15
      clear ho15
      obtain ⟨v16, hv16, hm⟩ := Option.bind_eq_some_iff.mp hm
      obtain ⟨v17, hv17, hm⟩ := Option.bind_eq_some_iff.mp hm
      refine j_callV (As := [aI j15]) G d_G_publish_41 (c_F_publishAs _ G.off _ _ _ _ _ _ _ hv17) mw_F_publishAs mi_F_publishAs lk_G_70 rfl hv16 rfl rfl (Nat.le_of_ble_eq_true rfl) ⟨by decide, by decide⟩ ⟨by decide, by decide⟩ (fun v9 w9 hp => ?_)
      obtain ⟨rfl, rfl⟩ := hp
      refine j_aload G d_G_publish_44 rfl ?_
      refine j_aload_n G d_G_publish_46 rfl ?_
      obtain ⟨v18, hv18, hm⟩ := Option.bind_eq_some_iff.mp hm
      refine j_callS (As := [aRf v12, aRf p2]) G d_G_publish_47 (c_G_pointToCopies _ G.off _ _ _ _ _ _ _ hv18) mw_G_pointToCopies ms_G_pointToCopies lk_G_74 rfl rfl (Nat.le_of_ble_eq_true rfl) ⟨by decide, by decide⟩ ⟨by decide, by decide⟩ (fun v9 w9 hp => ?_)
      obtain ⟨rfl, rfl⟩ := hp
      refine j_aload_n G d_G_publish_50 rfl ?_
      obtain ⟨v19, hv19, hm⟩ := Option.bind_eq_some_iff.mp hm
      refine j_gR G d_G_publish_51 fl_G_11 hv19 ?_
      refine j_iload_n G d_G_publish_54 rfl ?_
      refine j_aload_n G d_G_publish_55 rfl ?_
      refine j_iload_n G d_G_publish_56 rfl ?_
      refine j_aload G d_G_publish_57 rfl ?_
      obtain ⟨v20, hv20, hm⟩ := Option.bind_eq_some_iff.mp hm
      obtain ⟨v21, hv21, hm⟩ := Option.bind_eq_some_iff.mp hm
      refine j_callV (As := [aI s1.1, aRf v12]) G d_G_publish_59 (c_S_exchange _ G.off _ _ _ _ _ _ _ _ hv21) mw_S_exchange mi_S_exchange lk_G_78 rfl hv20 rfl rfl (Nat.le_of_ble_eq_true rfl) ⟨by decide, by decide⟩ ⟨by decide, by decide⟩ (fun v9 w9 hp => ?_)
      obtain ⟨rfl, rfl⟩ := hp
      obtain ⟨v22, hv22, hm⟩ := Option.bind_eq_some_iff.mp hm
      obtain ⟨v23, hv23, hm⟩ := Option.bind_eq_some_iff.mp hm
      refine j_aast G d_G_publish_62 rfl rfl hv22 hv23 ?_
      refine j_iinc (v := s1.1 + 1) G d_G_publish_63 rfl (by first | rfl | decide) (by decide) ?_
      refine j_goto (tgt := 2) G d_G_publish_66 rfl ?_
      refine j_lv [(0, aRf o), (1, aRf p1), (2, aRf p2), (3, aI (s1.1 + 1))] rfl ?_
      have z9 := hin1 _ (Option.some.inj hm).symm
      exact z9
    clear ho15
    have hm := hj15
    clear hj15
    refine j_ifnonnull (tgt := 36) G d_G_publish_29 rfl (fun hc => ?_) (fun hc => ?_)
    · rw [if_neg hc] at hm
      refine j_aload G d_G_publish_36 rfl ?_
      obtain ⟨v24, hv24, hm⟩ := Option.bind_eq_some_iff.mp hm
      obtain ⟨v25, hv25, hm⟩ := Option.bind_eq_some_iff.mp hm
      refine j_callV (As := []) G d_G_publish_38 (c_F_number _ G.off _ _ _ _ _ _ hv25) mw_F_number mi_F_number lk_G_67 rfl hv24 rfl rfl (Nat.le_of_ble_eq_true rfl) ⟨by decide, by decide⟩ ⟨by decide, by decide⟩ (fun v9 w9 hp => ?_)
      obtain ⟨rfl, rfl⟩ := hp
      obtain rfl := Option.some.inj hm
      refine j_lv [(0, aRf o), (1, aRf p1), (2, aRf p2), (3, aI s1.1), (4, aRf v12)] rfl ?_
      exact hJ15
    · rw [if_pos hc] at hm
      refine j_iconst (v := 0) G d_G_publish_32 (by decide) ?_
      refine j_goto (tgt := 41) G d_G_publish_33 rfl ?_
      obtain rfl := Option.some.inj hm
      refine j_lv [(0, aRf o), (1, aRf p1), (2, aRf p2), (3, aI s1.1), (4, aRf v12)] rfl ?_
      exact hJ15
