noncomputable def f_R_init (w : aw_W) (o : Option Nat) : Option (aw_W) :=
  (o).bind fun v1 =>
  some w
abbrev rm_R_init : Room := { frames := 1, cells := 0, slots := 0, locals := 12 }
set_option maxRecDepth 100000 in
set_option maxHeartbeats 4000000 in
theorem c_R_init (l : Launch) (hl : l.stackTraces = false) (D : va_G) (dA : Nat → ClassId) (base : Nat) (w : aw_W) (o : Option Nat) (r : aw_W) (hm : f_R_init w o = some r) : aj_Ct l D dA base m_R_init rm_R_init [aRf o] w (fun v w' => none = v ∧ r = w') := by
  refine aj_enter hl (by decide) (Nat.le_of_ble_eq_true rfl) ?_
  intro Γ G E
  unfold f_R_init at hm
  refine j_aload_n G d_R_init_0 rfl ?_
  obtain ⟨v1, hv1, hm⟩ := Option.bind_eq_some_iff.mp hm
  refine j_objInitR G d_R_init_1 wd_1_59 wd_1_24 wd_1_25 ⟨by decide, Nat.le_of_ble_eq_true rfl⟩ hv1 ?_
  obtain rfl := Option.some.inj hm
  exact j_vret G E d_R_init_4 ⟨by decide, by decide⟩ ⟨rfl, rfl⟩
noncomputable def f_F_init (w : aw_W) (o : Option Nat) : Option (aw_W) :=
  (o).bind fun v1 =>
  (w.1).bind fun v2 =>
  (f_O_init (aw_add w v2 (.inr (3, [.null, .int 0]))) (some v2) (100 : Int32)).bind fun v3 =>
  (aw_pV v3 o 6 0 (va_rf (some v2))).bind fun v4 =>
  (v4.1).bind fun v5 =>
  (f_O_init (aw_add v4 v5 (.inr (3, [.null, .int 0]))) (some v5) (104 : Int32)).bind fun v6 =>
  (aw_pV v6 o 6 1 (va_rf (some v5))).bind fun v7 =>
  (v7.1).bind fun v8 =>
  (aw_pV (aw_add v7 v8 (.inl (4, 11, .inr (.inr (.inr (.inr (fun _ => none))))))) o 6 2 (va_rf (some v8))).bind fun v9 =>
  (aw_wh (σ := Int32 × aw_W) (τ := Int32 × aw_W) (fun s10 =>
    (aw_le s10.1 11).bind fun _ =>
    (aw_gR s10.2 o 6 2).bind fun v11 =>
    (aw_len s10.2 v11 4).bind fun v12 =>
    if v12 ≤ s10.1 then
      some (.inr (s10.1, s10.2))
    else
      (aw_succ s10.1 11).bind fun _ =>
      (aw_gR s10.2 o 6 2).bind fun v13 =>
      (s10.2.1).bind fun v14 =>
      (f_R_init (aw_add s10.2 v14 (.inr (4, [.null, .int 0, .long 0, .int 0, .null]))) (some v14)).bind fun v15 =>
      (aw_obj v15 (some v14) 4).bind fun v16 =>
      (aw_sR v15 v13 4 s10.1 (some v14)).bind fun v17 =>
      some (.inl (s10.1 + 1, v17))) ((0 : Int32), v9)).bind fun e18 =>
  some e18.2
abbrev rm_F_init : Room := { frames := 2, cells := 17, slots := 283, locals := 33 }
set_option maxRecDepth 100000 in
set_option maxHeartbeats 4000000 in
theorem c_F_init (l : Launch) (hl : l.stackTraces = false) (D : va_G) (dA : Nat → ClassId) (base : Nat) (w : aw_W) (o : Option Nat) (r : aw_W) (hm : f_F_init w o = some r) : aj_Ct l D dA base m_F_init rm_F_init [aRf o] w (fun v w' => none = v ∧ r = w') := by
  refine aj_enter hl (by decide) (Nat.le_of_ble_eq_true rfl) ?_
  intro Γ G E
  unfold f_F_init at hm
  refine j_aload_n G d_F_init_0 rfl ?_
  obtain ⟨v1, hv1, hm⟩ := Option.bind_eq_some_iff.mp hm
  refine j_objInitR G d_F_init_1 wd_1_38 wd_1_24 wd_1_25 ⟨by decide, Nat.le_of_ble_eq_true rfl⟩ hv1 ?_
  refine j_aload_n G d_F_init_4 rfl ?_
  obtain ⟨v2, hv2, hm⟩ := Option.bind_eq_some_iff.mp hm
  refine j_new (ci := 3) (fs := [.null, .int 0]) aY_O G d_F_init_5 rfl aY_O_ok au_O wd_1_39 wd_1_40 wd_1_4 hv2 (by decide) ⟨by decide, by decide⟩ ?_
  refine j_dup G d_F_init_8 rfl ?_
  refine j_bipush (v := 100) G d_F_init_9 (by decide) ?_
  obtain ⟨v3, hv3, hm⟩ := Option.bind_eq_some_iff.mp hm
  refine j_callI (As := [aI (100 : Int32)]) G d_F_init_11 (c_O_init _ G.off _ _ _ _ _ _ _ hv3) rfl rfl mw_O_init mn_O_init lk_F_11 rfl rfl (Nat.le_of_ble_eq_true rfl) ⟨by decide, by decide⟩ ⟨by decide, by decide⟩ (fun v9 w9 hp => ?_)
  obtain ⟨rfl, rfl⟩ := hp
  obtain ⟨v4, hv4, hm⟩ := Option.bind_eq_some_iff.mp hm
  refine j_pF (ty := aY_F 0) G d_F_init_14 fl_F_14 ac_F (aw_T_of_F 0 (by decide) rfl) rfl rfl (by rintro _ _ _ ⟨⟩; exact wd_1_84) (aw_nR _ _) (aw_fR _ _) hv4 ?_
  refine j_aload_n G d_F_init_17 rfl ?_
  obtain ⟨v5, hv5, hm⟩ := Option.bind_eq_some_iff.mp hm
  refine j_new (ci := 3) (fs := [.null, .int 0]) aY_O G d_F_init_18 rfl aY_O_ok au_O wd_1_39 wd_1_40 wd_1_4 hv5 (by decide) ⟨by decide, by decide⟩ ?_
  refine j_dup G d_F_init_21 rfl ?_
  refine j_bipush (v := 104) G d_F_init_22 (by decide) ?_
  obtain ⟨v6, hv6, hm⟩ := Option.bind_eq_some_iff.mp hm
  refine j_callI (As := [aI (104 : Int32)]) G d_F_init_24 (c_O_init _ G.off _ _ _ _ _ _ _ hv6) rfl rfl mw_O_init mn_O_init lk_F_11 rfl rfl (Nat.le_of_ble_eq_true rfl) ⟨by decide, by decide⟩ ⟨by decide, by decide⟩ (fun v9 w9 hp => ?_)
  obtain ⟨rfl, rfl⟩ := hp
  obtain ⟨v7, hv7, hm⟩ := Option.bind_eq_some_iff.mp hm
  refine j_pF (ty := aY_F 1) G d_F_init_27 fl_F_20 ac_F (aw_T_of_F 1 (by decide) rfl) rfl rfl (by rintro _ _ _ ⟨⟩; exact wd_1_85) (aw_nR _ _) (aw_fR _ _) hv7 ?_
  refine j_aload_n G d_F_init_30 rfl ?_
  refine j_bipush (v := 11) G d_F_init_31 (by decide) ?_
  obtain ⟨v8, hv8, hm⟩ := Option.bind_eq_some_iff.mp hm
  refine j_anew (t := 4) (N := 11) (C := "AppendStore$Rec") G d_F_init_33 wd_1_53 wd_1_54 rfl (by decide) (by decide) (by decide) hv8 ⟨by decide, by decide⟩ ?_
  obtain ⟨v9, hv9, hm⟩ := Option.bind_eq_some_iff.mp hm
  refine j_pF (ty := aY_F 2) G d_F_init_36 fl_F_25 ac_F (aw_T_of_F 2 (by decide) rfl) rfl rfl (by rintro _ _ _ ⟨⟩; exact wd_1_86) (aw_nA _ _) (aw_fA _ _) hv9 ?_
  refine j_iconst (v := 0) G d_F_init_39 (by decide) ?_
  refine j_istore_n G d_F_init_40 (by decide) ?_
  obtain ⟨e10, he10, ho10⟩ := Option.bind_eq_some_iff.mp hm
  clear hm
  refine j_lv [(0, aRf o), (1, aI (0 : Int32))] rfl ?_
  refine j_wide (5 + 1 * (0 : Int32).toNatClampNeg, 223 + 5 * (0 : Int32).toNatClampNeg) (by decide) (by decide) ?_
  refine aw_wh_elim (fun (s : Int32 × aw_W) => aj_J Γ 2 (5 + 1 * s.1.toNatClampNeg, 223 + 5 * s.1.toNatClampNeg) 41 [(0, aRf o), (1, aI s.1)] [] s.2) ?_ he10
  intro s10 x10 hm hin10 hout10
  try dsimp only at hm ⊢
  obtain ⟨u10, hu10, hm⟩ := Option.bind_eq_some_iff.mp hm
  have b10 := aw_le_some hu10
  refine j_iload_n G d_F_init_41 rfl ?_
  refine j_aload_n G d_F_init_42 rfl ?_
  obtain ⟨v11, hv11, hm⟩ := Option.bind_eq_some_iff.mp hm
  refine j_gR G d_F_init_43 fl_F_25 hv11 ?_
  obtain ⟨v12, hv12, hm⟩ := Option.bind_eq_some_iff.mp hm
  refine j_alen G d_F_init_46 rfl hv12 ?_
  refine j_icmp_ge (tgt := 69) G d_F_init_47 rfl (fun hc => ?_) (fun hc => ?_)
  · rw [if_pos hc] at hm
    have q10 := hout10 _ (Option.some.inj hm).symm
    clear hin10 hout10
    subst q10
    clear hm
    have hm := ho10
    clear ho10
    try dsimp only at hm
    obtain rfl := Option.some.inj hm
    exact j_vret G E d_F_init_69 ⟨by dsimp only [rm_F_init]; omega, by dsimp only [rm_F_init]; omega⟩ ⟨rfl, rfl⟩
  · rw [if_neg hc] at hm
    obtain ⟨y10, hy10, hm⟩ := Option.bind_eq_some_iff.mp hm
    have a10 := aw_succ_some hy10
    refine j_aload_n G d_F_init_50 rfl ?_
    obtain ⟨v13, hv13, hm⟩ := Option.bind_eq_some_iff.mp hm
    refine j_gR G d_F_init_51 fl_F_25 hv13 ?_
    refine j_iload_n G d_F_init_54 rfl ?_
    obtain ⟨v14, hv14, hm⟩ := Option.bind_eq_some_iff.mp hm
    refine j_new (ci := 4) (fs := [.null, .int 0, .long 0, .int 0, .null]) aY_R G d_F_init_55 rfl aY_R_ok au_R wd_1_53 wd_1_55 wd_1_5 hv14 (by decide) ⟨by dsimp only [rm_F_init]; omega, by dsimp only [rm_F_init]; omega⟩ ?_
    refine j_dup G d_F_init_58 rfl ?_
    obtain ⟨v15, hv15, hm⟩ := Option.bind_eq_some_iff.mp hm
    refine j_callI (As := []) G d_F_init_59 (c_R_init _ G.off _ _ _ _ _ _ hv15) rfl rfl mw_R_init mn_R_init lk_F_29 rfl rfl (Nat.le_of_ble_eq_true rfl) ⟨by decide, by decide⟩ ⟨by dsimp only [rm_F_init, rm_R_init]; omega, by dsimp only [rm_F_init, rm_R_init]; omega⟩ (fun v9 w9 hp => ?_)
    obtain ⟨rfl, rfl⟩ := hp
    obtain ⟨v16, hv16, hm⟩ := Option.bind_eq_some_iff.mp hm
    obtain ⟨v17, hv17, hm⟩ := Option.bind_eq_some_iff.mp hm
    refine j_aast G d_F_init_62 rfl rfl hv16 hv17 ?_
    refine j_iinc (v := s10.1 + 1) G d_F_init_63 rfl (by first | rfl | decide) (by decide) ?_
    refine j_goto (tgt := 41) G d_F_init_66 rfl ?_
    refine j_wide (5 + 1 * (s10.1 + 1).toNatClampNeg, 223 + 5 * (s10.1 + 1).toNatClampNeg) (by dsimp only [rm_O_init, rm_R_init]; omega) (by dsimp only [rm_O_init, rm_R_init]; omega) ?_
    refine j_lv [(0, aRf o), (1, aI (s10.1 + 1))] rfl ?_
    have z9 := hin10 _ (Option.some.inj hm).symm
    exact z9
noncomputable def f_D_init (w : aw_W) (o : Option Nat) : Option (aw_W) :=
  (o).bind fun v1 =>
  (w.1).bind fun v2 =>
  (aw_pV (aw_add w v2 (.inl (4, 66, .inr (.inr (.inr (.inr (fun _ => none))))))) o 1 0 (va_rf (some v2))).bind fun v3 =>
  (aw_pV v3 o 1 1 (.int (0 : Int32))).bind fun v4 =>
  some v4
abbrev rm_D_init : Room := { frames := 1, cells := 1, slots := 66, locals := 12 }
set_option maxRecDepth 100000 in
set_option maxHeartbeats 4000000 in
theorem c_D_init (l : Launch) (hl : l.stackTraces = false) (D : va_G) (dA : Nat → ClassId) (base : Nat) (w : aw_W) (o : Option Nat) (r : aw_W) (hm : f_D_init w o = some r) : aj_Ct l D dA base m_D_init rm_D_init [aRf o] w (fun v w' => none = v ∧ r = w') := by
  refine aj_enter hl (by decide) (Nat.le_of_ble_eq_true rfl) ?_
  intro Γ G E
  unfold f_D_init at hm
  refine j_aload_n G d_D_init_0 rfl ?_
  obtain ⟨v1, hv1, hm⟩ := Option.bind_eq_some_iff.mp hm
  refine j_objInitR G d_D_init_1 wd_1_121 wd_1_24 wd_1_25 ⟨by decide, Nat.le_of_ble_eq_true rfl⟩ hv1 ?_
  refine j_aload_n G d_D_init_4 rfl ?_
  refine j_bipush (v := 66) G d_D_init_5 (by decide) ?_
  obtain ⟨v2, hv2, hm⟩ := Option.bind_eq_some_iff.mp hm
  refine j_anew (t := 4) (N := 66) (C := "AppendStore$Rec") G d_D_init_7 wd_1_122 wd_1_54 rfl (by decide) (by decide) (by decide) hv2 ⟨by decide, by decide⟩ ?_
  obtain ⟨v3, hv3, hm⟩ := Option.bind_eq_some_iff.mp hm
  refine j_pF (ty := aY_D 0) G d_D_init_10 fl_D_13 ac_D (aw_T_of_D 0 (by decide) rfl) rfl rfl (by rintro _ _ _ ⟨⟩; exact wd_1_123) (aw_nA _ _) (aw_fA _ _) hv3 ?_
  refine j_aload_n G d_D_init_13 rfl ?_
  refine j_iconst (v := 0) G d_D_init_14 (by decide) ?_
  obtain ⟨v4, hv4, hm⟩ := Option.bind_eq_some_iff.mp hm
  refine j_pV (ty := aY_D 1) G d_D_init_15 fl_D_19 ac_D (aw_T_of_D 1 (by decide) rfl) rfl rfl hv4 ?_
  obtain rfl := Option.some.inj hm
  exact j_vret G E d_D_init_18 ⟨by decide, by decide⟩ ⟨rfl, rfl⟩
noncomputable def f_F_bytes (w : aw_W) (o : Option Nat) : Option (Option Nat) :=
  (aw_gR w o 6 0).bind fun v1 =>
  some v1
abbrev rm_F_bytes : Room := { frames := 0, cells := 0, slots := 0, locals := 0 }
set_option maxRecDepth 100000 in
set_option maxHeartbeats 4000000 in
theorem c_F_bytes (l : Launch) (hl : l.stackTraces = false) (D : va_G) (dA : Nat → ClassId) (base : Nat) (w : aw_W) (o : Option Nat) (r : Option Nat) (hm : f_F_bytes w o = some r) : aj_Ct l D dA base m_F_bytes rm_F_bytes [aRf o] w (fun v w' => some (aRf r) = v ∧ w = w') := by
  refine aj_enter hl (by decide) (Nat.le_of_ble_eq_true rfl) ?_
  intro Γ G E
  unfold f_F_bytes at hm
  refine j_aload_n G d_F_bytes_0 rfl ?_
  obtain ⟨v1, hv1, hm⟩ := Option.bind_eq_some_iff.mp hm
  refine j_gR G d_F_bytes_1 fl_F_14 hv1 ?_
  obtain rfl := Option.some.inj hm
  exact j_aret G E d_F_bytes_4 ⟨by decide, by decide⟩ ⟨rfl, rfl⟩
noncomputable def f_F_syncAll (w : aw_W) (o : Option Nat) : Option (aw_W) :=
  (aw_gR w o 6 0).bind fun v1 =>
  (aw_obj w v1 3).bind fun v2 =>
  (f_O_size w v1).bind fun v3 =>
  (aw_pV w o 6 5 (.int v3)).bind fun v4 =>
  some v4
abbrev rm_F_syncAll : Room := { frames := 1, cells := 0, slots := 0, locals := 20 }
set_option maxRecDepth 100000 in
set_option maxHeartbeats 4000000 in
theorem c_F_syncAll (l : Launch) (hl : l.stackTraces = false) (D : va_G) (dA : Nat → ClassId) (base : Nat) (w : aw_W) (o : Option Nat) (r : aw_W) (hm : f_F_syncAll w o = some r) : aj_Ct l D dA base m_F_syncAll rm_F_syncAll [aRf o] w (fun v w' => none = v ∧ r = w') := by
  refine aj_enter hl (by decide) (Nat.le_of_ble_eq_true rfl) ?_
  intro Γ G E
  unfold f_F_syncAll at hm
  refine j_aload_n G d_F_syncAll_0 rfl ?_
  refine j_aload_n G d_F_syncAll_1 rfl ?_
  obtain ⟨v1, hv1, hm⟩ := Option.bind_eq_some_iff.mp hm
  refine j_gR G d_F_syncAll_2 fl_F_14 hv1 ?_
  obtain ⟨v2, hv2, hm⟩ := Option.bind_eq_some_iff.mp hm
  obtain ⟨v3, hv3, hm⟩ := Option.bind_eq_some_iff.mp hm
  refine j_callV (As := []) G d_F_syncAll_5 (c_O_size _ G.off _ _ _ _ _ _ hv3) mw_O_size mi_O_size lk_F_43 rfl hv2 rfl rfl (Nat.le_of_ble_eq_true rfl) ⟨by decide, by decide⟩ ⟨by decide, by decide⟩ (fun v9 w9 hp => ?_)
  obtain ⟨rfl, rfl⟩ := hp
  obtain ⟨v4, hv4, hm⟩ := Option.bind_eq_some_iff.mp hm
  refine j_pV (ty := aY_F 5) G d_F_syncAll_8 fl_F_40 ac_F (aw_T_of_F 5 (by decide) rfl) rfl rfl hv4 ?_
  obtain rfl := Option.some.inj hm
  exact j_vret G E d_F_syncAll_11 ⟨by decide, by decide⟩ ⟨rfl, rfl⟩
noncomputable def f_F_begin (w : aw_W) (o : Option Nat) (p1 : Int32) : Option (aw_W) :=
  (aw_gR w o 6 0).bind fun v1 =>
  (aw_obj w v1 3).bind fun v2 =>
  (f_O_cutTo w v1 (0 : Int32)).bind fun v3 =>
  (aw_gR v3 o 6 1).bind fun v4 =>
  (aw_obj v3 v4 3).bind fun v5 =>
  (f_O_cutTo v3 v4 (0 : Int32)).bind fun v6 =>
  (aw_pV v6 o 6 3 (.int (0 : Int32))).bind fun v7 =>
  (aw_pV v7 o 6 4 (.int p1)).bind fun v8 =>
  (aw_pV v8 o 6 5 (.int (0 : Int32))).bind fun v9 =>
  some v9
abbrev rm_F_begin : Room := { frames := 1, cells := 0, slots := 0, locals := 21 }
set_option maxRecDepth 100000 in
set_option maxHeartbeats 4000000 in
theorem c_F_begin (l : Launch) (hl : l.stackTraces = false) (D : va_G) (dA : Nat → ClassId) (base : Nat) (w : aw_W) (o : Option Nat) (p1 : Int32) (r : aw_W) (hm : f_F_begin w o p1 = some r) : aj_Ct l D dA base m_F_begin rm_F_begin [aRf o, aI p1] w (fun v w' => none = v ∧ r = w') := by
  refine aj_enter hl (by decide) (Nat.le_of_ble_eq_true rfl) ?_
  intro Γ G E
  unfold f_F_begin at hm
  refine j_aload_n G d_F_begin_0 rfl ?_
  obtain ⟨v1, hv1, hm⟩ := Option.bind_eq_some_iff.mp hm
  refine j_gR G d_F_begin_1 fl_F_14 hv1 ?_
  refine j_iconst (v := 0) G d_F_begin_4 (by decide) ?_
  obtain ⟨v2, hv2, hm⟩ := Option.bind_eq_some_iff.mp hm
  obtain ⟨v3, hv3, hm⟩ := Option.bind_eq_some_iff.mp hm
  refine j_callV (As := [aI (0 : Int32)]) G d_F_begin_5 (c_O_cutTo _ G.off _ _ _ _ _ _ _ hv3) mw_O_cutTo mi_O_cutTo lk_F_30 rfl hv2 rfl rfl (Nat.le_of_ble_eq_true rfl) ⟨by decide, by decide⟩ ⟨by decide, by decide⟩ (fun v9 w9 hp => ?_)
  obtain ⟨rfl, rfl⟩ := hp
  refine j_aload_n G d_F_begin_8 rfl ?_
  obtain ⟨v4, hv4, hm⟩ := Option.bind_eq_some_iff.mp hm
  refine j_gR G d_F_begin_9 fl_F_20 hv4 ?_
  refine j_iconst (v := 0) G d_F_begin_12 (by decide) ?_
  obtain ⟨v5, hv5, hm⟩ := Option.bind_eq_some_iff.mp hm
  obtain ⟨v6, hv6, hm⟩ := Option.bind_eq_some_iff.mp hm
  refine j_callV (As := [aI (0 : Int32)]) G d_F_begin_13 (c_O_cutTo _ G.off _ _ _ _ _ _ _ hv6) mw_O_cutTo mi_O_cutTo lk_F_30 rfl hv5 rfl rfl (Nat.le_of_ble_eq_true rfl) ⟨by decide, by decide⟩ ⟨by decide, by decide⟩ (fun v9 w9 hp => ?_)
  obtain ⟨rfl, rfl⟩ := hp
  refine j_aload_n G d_F_begin_16 rfl ?_
  refine j_iconst (v := 0) G d_F_begin_17 (by decide) ?_
  obtain ⟨v7, hv7, hm⟩ := Option.bind_eq_some_iff.mp hm
  refine j_pV (ty := aY_F 3) G d_F_begin_18 fl_F_33 ac_F (aw_T_of_F 3 (by decide) rfl) rfl rfl hv7 ?_
  refine j_aload_n G d_F_begin_21 rfl ?_
  refine j_iload_n G d_F_begin_22 rfl ?_
  obtain ⟨v8, hv8, hm⟩ := Option.bind_eq_some_iff.mp hm
  refine j_pV (ty := aY_F 4) G d_F_begin_23 fl_F_37 ac_F (aw_T_of_F 4 (by decide) rfl) rfl rfl hv8 ?_
  refine j_aload_n G d_F_begin_26 rfl ?_
  refine j_iconst (v := 0) G d_F_begin_27 (by decide) ?_
  obtain ⟨v9, hv9, hm⟩ := Option.bind_eq_some_iff.mp hm
  refine j_pV (ty := aY_F 5) G d_F_begin_28 fl_F_40 ac_F (aw_T_of_F 5 (by decide) rfl) rfl rfl hv9 ?_
  obtain rfl := Option.some.inj hm
  exact j_vret G E d_F_begin_31 ⟨by decide, by decide⟩ ⟨rfl, rfl⟩
noncomputable def f_F_note (w : aw_W) (o : Option Nat) (p1 : Int32) (p2 : Int64) (p3 : Int32) (p4 : Option Nat) : Option ((Option Nat) × aw_W) :=
  (aw_gI w o 6 3).bind fun v1 =>
  (aw_gR w o 6 2).bind fun v2 =>
  (aw_len w v2 4).bind fun v3 =>
  (if v3 ≤ v1 then
      some w
    else
      (aw_gI w o 6 3).bind fun v4 =>
      (aw_pV w o 6 3 (.int (v4 + (1 : Int32)))).bind fun v5 =>
      some v5 : Option (aw_W)).bind fun j6 =>
  (aw_gR j6 o 6 2).bind fun v7 =>
  (aw_gI j6 o 6 3).bind fun v8 =>
  (aw_aR j6 v7 4 (v8 - (1 : Int32))).bind fun v9 =>
  (aw_pV j6 v9 4 0 (va_rf o)).bind fun v10 =>
  (aw_pV v10 v9 4 1 (.int p1)).bind fun v11 =>
  (aw_pV v11 v9 4 2 (.long p2)).bind fun v12 =>
  (aw_pV v12 v9 4 3 (.int p3)).bind fun v13 =>
  (aw_pV v13 v9 4 4 (va_rf p4)).bind fun v14 =>
  some (v9, v14)
abbrev rm_F_note : Room := { frames := 0, cells := 0, slots := 0, locals := 0 }
set_option maxRecDepth 100000 in
set_option maxHeartbeats 4000000 in
theorem c_F_note (l : Launch) (hl : l.stackTraces = false) (D : va_G) (dA : Nat → ClassId) (base : Nat) (w : aw_W) (o : Option Nat) (p1 : Int32) (p2 : Int64) (p3 : Int32) (p4 : Option Nat) (r : (Option Nat) × aw_W) (hm : f_F_note w o p1 p2 p3 p4 = some r) : aj_Ct l D dA base m_F_note rm_F_note [aRf o, aI p1, aL p2, aI p3, aRf p4] w (fun v w' => some (aRf r.1) = v ∧ r.2 = w') := by
  refine aj_enter hl (by decide) (Nat.le_of_ble_eq_true rfl) ?_
  intro Γ G E
  unfold f_F_note at hm
  refine j_aload_n G d_F_note_0 rfl ?_
  obtain ⟨v1, hv1, hm⟩ := Option.bind_eq_some_iff.mp hm
  refine j_gI G d_F_note_1 fl_F_33 hv1 ?_
  refine j_aload_n G d_F_note_4 rfl ?_
  obtain ⟨v2, hv2, hm⟩ := Option.bind_eq_some_iff.mp hm
  refine j_gR G d_F_note_5 fl_F_25 hv2 ?_
  obtain ⟨v3, hv3, hm⟩ := Option.bind_eq_some_iff.mp hm
  refine j_alen G d_F_note_8 rfl hv3 ?_
  obtain ⟨j4, hj4, ho4⟩ := Option.bind_eq_some_iff.mp hm
  clear hm
  have hJ4 : aj_J Γ 7 (0, 0) 22 [(0, aRf o), (1, aI p1), (2, aL p2), (4, aI p3), (5, aRf p4)] [] j4 := by
    clear hj4
    have hm := ho4
    clear ho4
    refine j_aload_n G d_F_note_22 rfl ?_
    obtain ⟨v5, hv5, hm⟩ := Option.bind_eq_some_iff.mp hm
    refine j_gR G d_F_note_23 fl_F_25 hv5 ?_
    refine j_aload_n G d_F_note_26 rfl ?_
    obtain ⟨v6, hv6, hm⟩ := Option.bind_eq_some_iff.mp hm
    refine j_gI G d_F_note_27 fl_F_33 hv6 ?_
    refine j_iconst (v := 1) G d_F_note_30 (by decide) ?_
    refine j_isub G d_F_note_31 ?_
    obtain ⟨v7, hv7, hm⟩ := Option.bind_eq_some_iff.mp hm
    refine j_aald (C := "AppendStore$Rec") G d_F_note_32 rfl hv7 ?_
    refine j_astore G d_F_note_33 (by decide) ?_
    refine j_aload G d_F_note_35 rfl ?_
    refine j_aload_n G d_F_note_37 rfl ?_
    obtain ⟨v8, hv8, hm⟩ := Option.bind_eq_some_iff.mp hm
    refine j_pV (ty := aY_R 0) G d_F_note_38 fl_F_142 ac_R (aw_T_of_R 0 (by decide) rfl) (aw_nR _ _) (aw_fR _ _) hv8 ?_
    refine j_aload G d_F_note_41 rfl ?_
    refine j_iload_n G d_F_note_43 rfl ?_
    obtain ⟨v9, hv9, hm⟩ := Option.bind_eq_some_iff.mp hm
    refine j_pV (ty := aY_R 1) G d_F_note_44 fl_F_101 ac_R (aw_T_of_R 1 (by decide) rfl) rfl rfl hv9 ?_
    refine j_aload G d_F_note_47 rfl ?_
    refine j_lload_n G d_F_note_49 rfl ?_
    obtain ⟨v10, hv10, hm⟩ := Option.bind_eq_some_iff.mp hm
    refine j_pV (ty := aY_R 2) G d_F_note_50 fl_F_92 ac_R (aw_T_of_R 2 (by decide) rfl) rfl rfl hv10 ?_
    refine j_aload G d_F_note_53 rfl ?_
    refine j_iload G d_F_note_55 rfl ?_
    obtain ⟨v11, hv11, hm⟩ := Option.bind_eq_some_iff.mp hm
    refine j_pV (ty := aY_R 3) G d_F_note_57 fl_F_96 ac_R (aw_T_of_R 3 (by decide) rfl) rfl rfl hv11 ?_
    refine j_aload G d_F_note_60 rfl ?_
    refine j_aload G d_F_note_62 rfl ?_
    obtain ⟨v12, hv12, hm⟩ := Option.bind_eq_some_iff.mp hm
    refine j_pV (ty := aY_R 4) G d_F_note_64 fl_F_146 ac_R (aw_T_of_R 4 (by decide) rfl) (aw_nR _ _) (aw_fR _ _) hv12 ?_
    refine j_aload G d_F_note_67 rfl ?_
    obtain rfl := Option.some.inj hm
    exact j_aret G E d_F_note_69 ⟨by decide, by decide⟩ ⟨rfl, rfl⟩
  clear ho4
  have hm := hj4
  clear hj4
  refine j_icmp_ge (tgt := 22) G d_F_note_9 rfl (fun hc => ?_) (fun hc => ?_)
  · rw [if_pos hc] at hm
    obtain rfl := Option.some.inj hm
    refine j_lv [(0, aRf o), (1, aI p1), (2, aL p2), (4, aI p3), (5, aRf p4)] rfl ?_
    exact hJ4
  · rw [if_neg hc] at hm
    refine j_aload_n G d_F_note_12 rfl ?_
    refine j_dup G d_F_note_13 rfl ?_
    obtain ⟨v13, hv13, hm⟩ := Option.bind_eq_some_iff.mp hm
    refine j_gI G d_F_note_14 fl_F_33 hv13 ?_
    refine j_iconst (v := 1) G d_F_note_17 (by decide) ?_
    refine j_iadd G d_F_note_18 ?_
    obtain ⟨v14, hv14, hm⟩ := Option.bind_eq_some_iff.mp hm
    refine j_pV (ty := aY_F 3) G d_F_note_19 fl_F_33 ac_F (aw_T_of_F 3 (by decide) rfl) rfl rfl hv14 ?_
    obtain rfl := Option.some.inj hm
    refine j_lv [(0, aRf o), (1, aI p1), (2, aL p2), (4, aI p3), (5, aRf p4)] rfl ?_
    exact hJ4
noncomputable def f_F_append (w : aw_W) (o : Option Nat) (p1 : Int32) (p2 : Int64) (p3 : Int64) (p4 : Int32) : Option ((Option Nat) × aw_W) :=
  (aw_gR w o 6 0).bind fun v1 =>
  (aw_obj w v1 3).bind fun v2 =>
  (f_O_size w v1).bind fun v3 =>
  (f_K_size w p2).bind fun v4 =>
  (aw_gR w o 6 0).bind fun v5 =>
  (aw_obj w v5 3).bind fun v6 =>
  (f_O_addNumber w v5 (0 : Int64) (4 : Int32)).bind fun v7 =>
  (aw_gR v7 o 6 0).bind fun v8 =>
  (aw_obj v7 v8 3).bind fun v9 =>
  (f_O_addNumber v7 v8 p1.toInt64 (2 : Int32)).bind fun v10 =>
  (aw_gR v10 o 6 0).bind fun v11 =>
  (aw_obj v10 v11 3).bind fun v12 =>
  (f_O_addByte v10 v11 v4).bind fun v13 =>
  (aw_gR v13 o 6 0).bind fun v14 =>
  (aw_obj v13 v14 3).bind fun v15 =>
  (f_O_addByte v13 v14 p4).bind fun v16 =>
  (aw_gR v16 o 6 0).bind fun v17 =>
  (f_K_number v16 p2).bind fun v18 =>
  (aw_obj v16 v17 3).bind fun v19 =>
  (f_O_addNumber v16 v17 v18 v4).bind fun v20 =>
  (aw_gR v20 o 6 0).bind fun v21 =>
  (f_Y_valueBytes v20 p4).bind fun v22 =>
  (aw_obj v20 v21 3).bind fun v23 =>
  (f_O_addNumber v20 v21 p3 v22).bind fun v24 =>
  (aw_gR v24 o 6 0).bind fun v25 =>
  (aw_gR v24 o 6 0).bind fun v26 =>
  (aw_gR v24 o 6 0).bind fun v27 =>
  (aw_obj v24 v27 3).bind fun v28 =>
  (f_O_size v24 v27).bind fun v29 =>
  (aw_obj v24 v26 3).bind fun v30 =>
  (f_O_sum v24 v26 (v3 + (4 : Int32)) v29).bind fun v31 =>
  (aw_obj v24 v25 3).bind fun v32 =>
  (f_O_setSum v24 v25 v3 v31).bind fun v33 =>
  (aw_obj v33 o 6).bind fun v34 =>
  (f_F_note v33 o v3 p2 p4 none).bind fun v35 =>
  some (v35.1, v35.2)
abbrev rm_F_append : Room := { frames := 3, cells := 0, slots := 0, locals := 67 }
set_option maxRecDepth 100000 in
set_option maxHeartbeats 4000000 in
theorem c_F_append (l : Launch) (hl : l.stackTraces = false) (D : va_G) (dA : Nat → ClassId) (base : Nat) (w : aw_W) (o : Option Nat) (p1 : Int32) (p2 : Int64) (p3 : Int64) (p4 : Int32) (r : (Option Nat) × aw_W) (hm : f_F_append w o p1 p2 p3 p4 = some r) : aj_Ct l D dA base m_F_append rm_F_append [aRf o, aI p1, aL p2, aL p3, aI p4] w (fun v w' => some (aRf r.1) = v ∧ r.2 = w') := by
  refine aj_enter hl (by decide) (Nat.le_of_ble_eq_true rfl) ?_
  intro Γ G E
  unfold f_F_append at hm
  refine j_aload_n G d_F_append_0 rfl ?_
  obtain ⟨v1, hv1, hm⟩ := Option.bind_eq_some_iff.mp hm
  refine j_gR G d_F_append_1 fl_F_14 hv1 ?_
  obtain ⟨v2, hv2, hm⟩ := Option.bind_eq_some_iff.mp hm
  obtain ⟨v3, hv3, hm⟩ := Option.bind_eq_some_iff.mp hm
  refine j_callV (As := []) G d_F_append_4 (c_O_size _ G.off _ _ _ _ _ _ hv3) mw_O_size mi_O_size lk_F_43 rfl hv2 rfl rfl (Nat.le_of_ble_eq_true rfl) ⟨by decide, by decide⟩ ⟨by decide, by decide⟩ (fun v9 w9 hp => ?_)
  obtain ⟨rfl, rfl⟩ := hp
  refine j_istore G d_F_append_7 (by decide) ?_
  refine j_lload_n G d_F_append_9 rfl ?_
  obtain ⟨v4, hv4, hm⟩ := Option.bind_eq_some_iff.mp hm
  refine j_callS (As := [aL p2]) G d_F_append_10 (c_K_size _ G.off _ _ _ _ _ _ hv4) mw_K_size ms_K_size lk_F_57 rfl rfl (Nat.le_of_ble_eq_true rfl) ⟨by decide, by decide⟩ ⟨by decide, by decide⟩ (fun v9 w9 hp => ?_)
  obtain ⟨rfl, rfl⟩ := hp
  refine j_istore G d_F_append_13 (by decide) ?_
  refine j_aload_n G d_F_append_15 rfl ?_
  obtain ⟨v5, hv5, hm⟩ := Option.bind_eq_some_iff.mp hm
  refine j_gR G d_F_append_16 fl_F_14 hv5 ?_
  refine j_lconst (v := 0) G d_F_append_19 (by decide) ?_
  refine j_iconst (v := 4) G d_F_append_20 (by decide) ?_
  obtain ⟨v6, hv6, hm⟩ := Option.bind_eq_some_iff.mp hm
  obtain ⟨v7, hv7, hm⟩ := Option.bind_eq_some_iff.mp hm
  refine j_callV (As := [aL (0 : Int64), aI (4 : Int32)]) G d_F_append_21 (c_O_addNumber _ G.off _ _ _ _ _ _ _ _ hv7) mw_O_addNumber mi_O_addNumber lk_F_62 rfl hv6 rfl rfl (Nat.le_of_ble_eq_true rfl) ⟨by decide, by decide⟩ ⟨by decide, by decide⟩ (fun v9 w9 hp => ?_)
  obtain ⟨rfl, rfl⟩ := hp
  refine j_aload_n G d_F_append_24 rfl ?_
  obtain ⟨v8, hv8, hm⟩ := Option.bind_eq_some_iff.mp hm
  refine j_gR G d_F_append_25 fl_F_14 hv8 ?_
  refine j_iload_n G d_F_append_28 rfl ?_
  refine j_i2l G d_F_append_29 ?_
  refine j_iconst (v := 2) G d_F_append_30 (by decide) ?_
  obtain ⟨v9, hv9, hm⟩ := Option.bind_eq_some_iff.mp hm
  obtain ⟨v10, hv10, hm⟩ := Option.bind_eq_some_iff.mp hm
  refine j_callV (As := [aL p1.toInt64, aI (2 : Int32)]) G d_F_append_31 (c_O_addNumber _ G.off _ _ _ _ _ _ _ _ hv10) mw_O_addNumber mi_O_addNumber lk_F_62 rfl hv9 rfl rfl (Nat.le_of_ble_eq_true rfl) ⟨by decide, by decide⟩ ⟨by decide, by decide⟩ (fun v9 w9 hp => ?_)
  obtain ⟨rfl, rfl⟩ := hp
  refine j_aload_n G d_F_append_34 rfl ?_
  obtain ⟨v11, hv11, hm⟩ := Option.bind_eq_some_iff.mp hm
  refine j_gR G d_F_append_35 fl_F_14 hv11 ?_
  refine j_iload G d_F_append_38 rfl ?_
  obtain ⟨v12, hv12, hm⟩ := Option.bind_eq_some_iff.mp hm
  obtain ⟨v13, hv13, hm⟩ := Option.bind_eq_some_iff.mp hm
  refine j_callV (As := [aI v4]) G d_F_append_40 (c_O_addByte _ G.off _ _ _ _ _ _ _ hv13) mw_O_addByte mi_O_addByte lk_F_66 rfl hv12 rfl rfl (Nat.le_of_ble_eq_true rfl) ⟨by decide, by decide⟩ ⟨by decide, by decide⟩ (fun v9 w9 hp => ?_)
  obtain ⟨rfl, rfl⟩ := hp
  refine j_aload_n G d_F_append_43 rfl ?_
  obtain ⟨v14, hv14, hm⟩ := Option.bind_eq_some_iff.mp hm
  refine j_gR G d_F_append_44 fl_F_14 hv14 ?_
  refine j_iload G d_F_append_47 rfl ?_
  obtain ⟨v15, hv15, hm⟩ := Option.bind_eq_some_iff.mp hm
  obtain ⟨v16, hv16, hm⟩ := Option.bind_eq_some_iff.mp hm
  refine j_callV (As := [aI p4]) G d_F_append_49 (c_O_addByte _ G.off _ _ _ _ _ _ _ hv16) mw_O_addByte mi_O_addByte lk_F_66 rfl hv15 rfl rfl (Nat.le_of_ble_eq_true rfl) ⟨by decide, by decide⟩ ⟨by decide, by decide⟩ (fun v9 w9 hp => ?_)
  obtain ⟨rfl, rfl⟩ := hp
  refine j_aload_n G d_F_append_52 rfl ?_
  obtain ⟨v17, hv17, hm⟩ := Option.bind_eq_some_iff.mp hm
  refine j_gR G d_F_append_53 fl_F_14 hv17 ?_
  refine j_lload_n G d_F_append_56 rfl ?_
  obtain ⟨v18, hv18, hm⟩ := Option.bind_eq_some_iff.mp hm
  refine j_callS (As := [aL p2]) G d_F_append_57 (c_K_number _ G.off _ _ _ _ _ _ hv18) mw_K_number ms_K_number lk_F_69 rfl rfl (Nat.le_of_ble_eq_true rfl) ⟨by decide, by decide⟩ ⟨by decide, by decide⟩ (fun v9 w9 hp => ?_)
  obtain ⟨rfl, rfl⟩ := hp
  refine j_iload G d_F_append_60 rfl ?_
  obtain ⟨v19, hv19, hm⟩ := Option.bind_eq_some_iff.mp hm
  obtain ⟨v20, hv20, hm⟩ := Option.bind_eq_some_iff.mp hm
  refine j_callV (As := [aL v18, aI v4]) G d_F_append_62 (c_O_addNumber _ G.off _ _ _ _ _ _ _ _ hv20) mw_O_addNumber mi_O_addNumber lk_F_62 rfl hv19 rfl rfl (Nat.le_of_ble_eq_true rfl) ⟨by decide, by decide⟩ ⟨by decide, by decide⟩ (fun v9 w9 hp => ?_)
  obtain ⟨rfl, rfl⟩ := hp
  refine j_aload_n G d_F_append_65 rfl ?_
  obtain ⟨v21, hv21, hm⟩ := Option.bind_eq_some_iff.mp hm
  refine j_gR G d_F_append_66 fl_F_14 hv21 ?_
  refine j_lload G d_F_append_69 rfl ?_
  refine j_iload G d_F_append_71 rfl ?_
  obtain ⟨v22, hv22, hm⟩ := Option.bind_eq_some_iff.mp hm
  refine j_callS (As := [aI p4]) G d_F_append_73 (c_Y_valueBytes _ G.off _ _ _ _ _ _ hv22) mw_Y_valueBytes ms_Y_valueBytes lk_F_72 rfl rfl (Nat.le_of_ble_eq_true rfl) ⟨by decide, by decide⟩ ⟨by decide, by decide⟩ (fun v9 w9 hp => ?_)
  obtain ⟨rfl, rfl⟩ := hp
  obtain ⟨v23, hv23, hm⟩ := Option.bind_eq_some_iff.mp hm
  obtain ⟨v24, hv24, hm⟩ := Option.bind_eq_some_iff.mp hm
  refine j_callV (As := [aL p3, aI v22]) G d_F_append_76 (c_O_addNumber _ G.off _ _ _ _ _ _ _ _ hv24) mw_O_addNumber mi_O_addNumber lk_F_62 rfl hv23 rfl rfl (Nat.le_of_ble_eq_true rfl) ⟨by decide, by decide⟩ ⟨by decide, by decide⟩ (fun v9 w9 hp => ?_)
  obtain ⟨rfl, rfl⟩ := hp
  refine j_aload_n G d_F_append_79 rfl ?_
  obtain ⟨v25, hv25, hm⟩ := Option.bind_eq_some_iff.mp hm
  refine j_gR G d_F_append_80 fl_F_14 hv25 ?_
  refine j_iload G d_F_append_83 rfl ?_
  refine j_aload_n G d_F_append_85 rfl ?_
  obtain ⟨v26, hv26, hm⟩ := Option.bind_eq_some_iff.mp hm
  refine j_gR G d_F_append_86 fl_F_14 hv26 ?_
  refine j_iload G d_F_append_89 rfl ?_
  refine j_iconst (v := 4) G d_F_append_91 (by decide) ?_
  refine j_iadd G d_F_append_92 ?_
  refine j_aload_n G d_F_append_93 rfl ?_
  obtain ⟨v27, hv27, hm⟩ := Option.bind_eq_some_iff.mp hm
  refine j_gR G d_F_append_94 fl_F_14 hv27 ?_
  obtain ⟨v28, hv28, hm⟩ := Option.bind_eq_some_iff.mp hm
  obtain ⟨v29, hv29, hm⟩ := Option.bind_eq_some_iff.mp hm
  refine j_callV (As := []) G d_F_append_97 (c_O_size _ G.off _ _ _ _ _ _ hv29) mw_O_size mi_O_size lk_F_43 rfl hv28 rfl rfl (Nat.le_of_ble_eq_true rfl) ⟨by decide, by decide⟩ ⟨by decide, by decide⟩ (fun v9 w9 hp => ?_)
  obtain ⟨rfl, rfl⟩ := hp
  obtain ⟨v30, hv30, hm⟩ := Option.bind_eq_some_iff.mp hm
  obtain ⟨v31, hv31, hm⟩ := Option.bind_eq_some_iff.mp hm
  refine j_callV (As := [aI (v3 + (4 : Int32)), aI v29]) G d_F_append_100 (c_O_sum _ G.off _ _ _ _ _ _ _ _ hv31) mw_O_sum mi_O_sum lk_F_76 rfl hv30 rfl rfl (Nat.le_of_ble_eq_true rfl) ⟨by decide, by decide⟩ ⟨by decide, by decide⟩ (fun v9 w9 hp => ?_)
  obtain ⟨rfl, rfl⟩ := hp
  obtain ⟨v32, hv32, hm⟩ := Option.bind_eq_some_iff.mp hm
  obtain ⟨v33, hv33, hm⟩ := Option.bind_eq_some_iff.mp hm
  refine j_callV (As := [aI v3, aL v31]) G d_F_append_103 (c_O_setSum _ G.off _ _ _ _ _ _ _ _ hv33) mw_O_setSum mi_O_setSum lk_F_80 rfl hv32 rfl rfl (Nat.le_of_ble_eq_true rfl) ⟨by decide, by decide⟩ ⟨by decide, by decide⟩ (fun v9 w9 hp => ?_)
  obtain ⟨rfl, rfl⟩ := hp
  refine j_aload_n G d_F_append_106 rfl ?_
  refine j_iload G d_F_append_107 rfl ?_
  refine j_lload_n G d_F_append_109 rfl ?_
  refine j_iload G d_F_append_110 rfl ?_
  refine j_null G d_F_append_112 ?_
  obtain ⟨v34, hv34, hm⟩ := Option.bind_eq_some_iff.mp hm
  obtain ⟨v35, hv35, hm⟩ := Option.bind_eq_some_iff.mp hm
  refine j_callV (As := [aI v3, aL p2, aI p4, aRf none]) G d_F_append_113 (c_F_note _ G.off _ _ _ _ _ _ _ _ _ _ hv35) mw_F_note mi_F_note lk_F_84 rfl hv34 rfl rfl (Nat.le_of_ble_eq_true rfl) ⟨by decide, by decide⟩ ⟨by decide, by decide⟩ (fun v9 w9 hp => ?_)
  obtain ⟨rfl, rfl⟩ := hp
  obtain rfl := Option.some.inj hm
  exact j_aret G E d_F_append_116 ⟨by decide, by decide⟩ ⟨rfl, rfl⟩
noncomputable def f_D_firstFrom (w : aw_W) (o : Option Nat) (p1 : Int64) : Option (Int32) :=
  (aw_wh (σ := Int32) (τ := Int32) (fun s1 =>
    (aw_gI w o 1 1).bind fun v2 =>
    if v2 ≤ s1 then
      some (.inr s1)
    else
      (aw_gR w o 1 0).bind fun v3 =>
      (aw_aR w v3 4 s1).bind fun v4 =>
      (aw_gL w v4 4 2).bind fun v5 =>
      if 0 ≤ (lg_cmp v5 p1) then
        some (.inr s1)
      else
        some (.inl (s1 + 1))) (0 : Int32)).bind fun e6 =>
  some e6
abbrev rm_D_firstFrom : Room := { frames := 0, cells := 0, slots := 0, locals := 0 }
set_option maxRecDepth 100000 in
set_option maxHeartbeats 4000000 in
theorem c_D_firstFrom (l : Launch) (hl : l.stackTraces = false) (D : va_G) (dA : Nat → ClassId) (base : Nat) (w : aw_W) (o : Option Nat) (p1 : Int64) (r : Int32) (hm : f_D_firstFrom w o p1 = some r) : aj_Ct l D dA base m_D_firstFrom rm_D_firstFrom [aRf o, aL p1] w (fun v w' => some (aI r) = v ∧ w = w') := by
  refine aj_enter hl (by decide) (Nat.le_of_ble_eq_true rfl) ?_
  intro Γ G E
  unfold f_D_firstFrom at hm
  refine j_iconst (v := 0) G d_D_firstFrom_0 (by decide) ?_
  refine j_istore_n G d_D_firstFrom_1 (by decide) ?_
  obtain ⟨e1, he1, ho1⟩ := Option.bind_eq_some_iff.mp hm
  clear hm
  refine j_lv [(0, aRf o), (1, aL p1), (3, aI (0 : Int32))] rfl ?_
  refine aw_wh_elim (fun (s : Int32) => aj_J Γ 4 (0, 0) 2 [(0, aRf o), (1, aL p1), (3, aI s)] [] w) ?_ he1
  intro s1 x1 hm hin1 hout1
  try dsimp only at hm ⊢
  refine j_iload_n G d_D_firstFrom_2 rfl ?_
  refine j_aload_n G d_D_firstFrom_3 rfl ?_
  obtain ⟨v2, hv2, hm⟩ := Option.bind_eq_some_iff.mp hm
  refine j_gI G d_D_firstFrom_4 fl_D_19 hv2 ?_
  refine j_icmp_ge (tgt := 30) G d_D_firstFrom_7 rfl (fun hc => ?_) (fun hc => ?_)
  · rw [if_pos hc] at hm
    have q1 := hout1 _ (Option.some.inj hm).symm
    clear hin1 hout1
    subst q1
    clear hm
    have hm := ho1
    clear ho1
    try dsimp only at hm
    refine j_iload_n G d_D_firstFrom_30 rfl ?_
    obtain rfl := Option.some.inj hm
    exact j_iret G E d_D_firstFrom_31 ⟨by decide, by decide⟩ ⟨rfl, rfl⟩
  · rw [if_neg hc] at hm
    refine j_aload_n G d_D_firstFrom_10 rfl ?_
    obtain ⟨v3, hv3, hm⟩ := Option.bind_eq_some_iff.mp hm
    refine j_gR G d_D_firstFrom_11 fl_D_13 hv3 ?_
    refine j_iload_n G d_D_firstFrom_14 rfl ?_
    obtain ⟨v4, hv4, hm⟩ := Option.bind_eq_some_iff.mp hm
    refine j_aald (C := "AppendStore$Rec") G d_D_firstFrom_15 rfl hv4 ?_
    obtain ⟨v5, hv5, hm⟩ := Option.bind_eq_some_iff.mp hm
    refine j_gL G d_D_firstFrom_16 fl_D_31 hv5 ?_
    refine j_lload_n G d_D_firstFrom_19 rfl ?_
    refine j_lcmp G d_D_firstFrom_20 ?_
    refine j_if_ge (tgt := 30) G d_D_firstFrom_21 rfl (fun hc => ?_) (fun hc => ?_)
    · rw [if_pos hc] at hm
      have q1 := hout1 _ (Option.some.inj hm).symm
      clear hin1 hout1
      subst q1
      clear hm
      have hm := ho1
      clear ho1
      try dsimp only at hm
      refine j_iload_n G d_D_firstFrom_30 rfl ?_
      obtain rfl := Option.some.inj hm
      exact j_iret G E d_D_firstFrom_31 ⟨by decide, by decide⟩ ⟨rfl, rfl⟩
    · rw [if_neg hc] at hm
      refine j_iinc (v := s1 + 1) G d_D_firstFrom_24 rfl (by first | rfl | decide) (by decide) ?_
      refine j_goto (tgt := 2) G d_D_firstFrom_27 rfl ?_
      refine j_lv [(0, aRf o), (1, aL p1), (3, aI (s1 + 1))] rfl ?_
      have z9 := hin1 _ (Option.some.inj hm).symm
      exact z9
noncomputable def f_D_at (w : aw_W) (o : Option Nat) (p1 : Int32) : Option (Option Nat) :=
  (if p1 < 0 then
      some none
    else
      (aw_gI w o 1 1).bind fun v1 =>
      if v1 ≤ p1 then
        some none
      else
        (aw_gR w o 1 0).bind fun v2 =>
        (aw_aR w v2 4 p1).bind fun v3 =>
        some v3 : Option (Option Nat)).bind fun j4 =>
  some j4
abbrev rm_D_at : Room := { frames := 0, cells := 0, slots := 0, locals := 0 }
set_option maxRecDepth 100000 in
set_option maxHeartbeats 4000000 in
theorem c_D_at (l : Launch) (hl : l.stackTraces = false) (D : va_G) (dA : Nat → ClassId) (base : Nat) (w : aw_W) (o : Option Nat) (p1 : Int32) (r : Option Nat) (hm : f_D_at w o p1 = some r) : aj_Ct l D dA base m_D_at rm_D_at [aRf o, aI p1] w (fun v w' => some (aRf r) = v ∧ w = w') := by
  refine aj_enter hl (by decide) (Nat.le_of_ble_eq_true rfl) ?_
  intro Γ G E
  unfold f_D_at at hm
  refine j_iload_n G d_D_at_0 rfl ?_
  obtain ⟨j1, hj1, ho1⟩ := Option.bind_eq_some_iff.mp hm
  clear hm
  have hJ1 : aj_J Γ 2 (0, 0) 22 [] [aRf j1] w := by
    clear hj1
    have hm := ho1
    clear ho1
    obtain rfl := Option.some.inj hm
    exact j_aret G E d_D_at_22 ⟨by decide, by decide⟩ ⟨rfl, rfl⟩
  clear ho1
  have hm := hj1
  clear hj1
  refine j_if_lt (tgt := 21) G d_D_at_1 rfl (fun hc => ?_) (fun hc => ?_)
  · rw [if_pos hc] at hm
    refine j_null G d_D_at_21 ?_
    obtain rfl := Option.some.inj hm
    refine j_lv [] rfl ?_
    exact hJ1
  · rw [if_neg hc] at hm
    refine j_iload_n G d_D_at_4 rfl ?_
    refine j_aload_n G d_D_at_5 rfl ?_
    obtain ⟨v2, hv2, hm⟩ := Option.bind_eq_some_iff.mp hm
    refine j_gI G d_D_at_6 fl_D_19 hv2 ?_
    refine j_icmp_ge (tgt := 21) G d_D_at_9 rfl (fun hc => ?_) (fun hc => ?_)
    · rw [if_pos hc] at hm
      refine j_null G d_D_at_21 ?_
      obtain rfl := Option.some.inj hm
      refine j_lv [] rfl ?_
      exact hJ1
    · rw [if_neg hc] at hm
      refine j_aload_n G d_D_at_12 rfl ?_
      obtain ⟨v3, hv3, hm⟩ := Option.bind_eq_some_iff.mp hm
      refine j_gR G d_D_at_13 fl_D_13 hv3 ?_
      refine j_iload_n G d_D_at_16 rfl ?_
      obtain ⟨v4, hv4, hm⟩ := Option.bind_eq_some_iff.mp hm
      refine j_aald (C := "AppendStore$Rec") G d_D_at_17 rfl hv4 ?_
      refine j_goto (tgt := 22) G d_D_at_18 rfl ?_
      obtain rfl := Option.some.inj hm
      refine j_lv [] rfl ?_
      exact hJ1
noncomputable def f_R_isTombstone (w : aw_W) (o : Option Nat) : Option (Int32) :=
  (aw_gI w o 4 3).bind fun v1 =>
  (if v1 = (255 : Int32) then
      some (1 : Int32)
    else
      some (0 : Int32) : Option (Int32)).bind fun j2 =>
  (aw_zz j2).bind fun v3 =>
  some j2
abbrev rm_R_isTombstone : Room := { frames := 0, cells := 0, slots := 0, locals := 0 }
set_option maxRecDepth 100000 in
set_option maxHeartbeats 4000000 in
theorem c_R_isTombstone (l : Launch) (hl : l.stackTraces = false) (D : va_G) (dA : Nat → ClassId) (base : Nat) (w : aw_W) (o : Option Nat) (r : Int32) (hm : f_R_isTombstone w o = some r) : aj_Ct l D dA base m_R_isTombstone rm_R_isTombstone [aRf o] w (fun v w' => some (aI r) = v ∧ w = w') := by
  refine aj_enter hl (by decide) (Nat.le_of_ble_eq_true rfl) ?_
  intro Γ G E
  unfold f_R_isTombstone at hm
  refine j_aload_n G d_R_isTombstone_0 rfl ?_
  obtain ⟨v1, hv1, hm⟩ := Option.bind_eq_some_iff.mp hm
  refine j_gI G d_R_isTombstone_1 fl_R_7 hv1 ?_
  refine j_sipush (v := 255) G d_R_isTombstone_4 (by decide) ?_
  obtain ⟨j2, hj2, ho2⟩ := Option.bind_eq_some_iff.mp hm
  clear hm
  have hJ2 : aj_J Γ 1 (0, 0) 15 [] [aI j2] w := by
    clear hj2
    have hm := ho2
    clear ho2
    obtain ⟨v3, hv3, hm⟩ := Option.bind_eq_some_iff.mp hm
    obtain rfl := Option.some.inj hm
    exact j_zret G E d_R_isTombstone_15 ⟨by decide, by decide⟩ (aw_zz_some hv3) ⟨rfl, rfl⟩
  clear ho2
  have hm := hj2
  clear hj2
  refine j_icmp_ne (tgt := 14) G d_R_isTombstone_7 rfl (fun hc => ?_) (fun hc => ?_)
  · rw [if_neg hc] at hm
    refine j_iconst (v := 0) G d_R_isTombstone_14 (by decide) ?_
    obtain rfl := Option.some.inj hm
    refine j_lv [] rfl ?_
    exact hJ2
  · rw [if_pos hc] at hm
    refine j_iconst (v := 1) G d_R_isTombstone_10 (by decide) ?_
    refine j_goto (tgt := 15) G d_R_isTombstone_11 rfl ?_
    obtain rfl := Option.some.inj hm
    refine j_lv [] rfl ?_
    exact hJ2
noncomputable def f_D_takeOut (w : aw_W) (o : Option Nat) (p1 : Int32) : Option (aw_W) :=
  (aw_wh (σ := Int32 × aw_W) (τ := Int32 × aw_W) (fun s1 =>
    (aw_gI s1.2 o 1 1).bind fun v2 =>
    if (v2 - (1 : Int32)) ≤ s1.1 then
      some (.inr (s1.1, s1.2))
    else
      (aw_gR s1.2 o 1 0).bind fun v3 =>
      (aw_gR s1.2 o 1 0).bind fun v4 =>
      (aw_aR s1.2 v4 4 (s1.1 + (1 : Int32))).bind fun v5 =>
      (aw_obj s1.2 v5 4).bind fun v6 =>
      (aw_sR s1.2 v3 4 s1.1 v5).bind fun v7 =>
      some (.inl (s1.1 + 1, v7))) (p1, w)).bind fun e8 =>
  (aw_gI e8.2 o 1 1).bind fun v9 =>
  (aw_pV e8.2 o 1 1 (.int (v9 - (1 : Int32)))).bind fun v10 =>
  some v10
abbrev rm_D_takeOut : Room := { frames := 0, cells := 0, slots := 0, locals := 0 }
set_option maxRecDepth 100000 in
set_option maxHeartbeats 4000000 in
theorem c_D_takeOut (l : Launch) (hl : l.stackTraces = false) (D : va_G) (dA : Nat → ClassId) (base : Nat) (w : aw_W) (o : Option Nat) (p1 : Int32) (r : aw_W) (hm : f_D_takeOut w o p1 = some r) : aj_Ct l D dA base m_D_takeOut rm_D_takeOut [aRf o, aI p1] w (fun v w' => none = v ∧ r = w') := by
  refine aj_enter hl (by decide) (Nat.le_of_ble_eq_true rfl) ?_
  intro Γ G E
  unfold f_D_takeOut at hm
  refine j_iload_n G d_D_takeOut_0 rfl ?_
  refine j_istore_n G d_D_takeOut_1 (by decide) ?_
  obtain ⟨e1, he1, ho1⟩ := Option.bind_eq_some_iff.mp hm
  clear hm
  refine j_lv [(0, aRf o), (2, aI p1)] rfl ?_
  refine aw_wh_elim (fun (s : Int32 × aw_W) => aj_J Γ 3 (0, 0) 2 [(0, aRf o), (2, aI s.1)] [] s.2) ?_ he1
  intro s1 x1 hm hin1 hout1
  try dsimp only at hm ⊢
  refine j_iload_n G d_D_takeOut_2 rfl ?_
  refine j_aload_n G d_D_takeOut_3 rfl ?_
  obtain ⟨v2, hv2, hm⟩ := Option.bind_eq_some_iff.mp hm
  refine j_gI G d_D_takeOut_4 fl_D_19 hv2 ?_
  refine j_iconst (v := 1) G d_D_takeOut_7 (by decide) ?_
  refine j_isub G d_D_takeOut_8 ?_
  refine j_icmp_ge (tgt := 32) G d_D_takeOut_9 rfl (fun hc => ?_) (fun hc => ?_)
  · rw [if_pos hc] at hm
    have q1 := hout1 _ (Option.some.inj hm).symm
    clear hin1 hout1
    subst q1
    clear hm
    have hm := ho1
    clear ho1
    try dsimp only at hm
    refine j_aload_n G d_D_takeOut_32 rfl ?_
    refine j_dup G d_D_takeOut_33 rfl ?_
    obtain ⟨v3, hv3, hm⟩ := Option.bind_eq_some_iff.mp hm
    refine j_gI G d_D_takeOut_34 fl_D_19 hv3 ?_
    refine j_iconst (v := 1) G d_D_takeOut_37 (by decide) ?_
    refine j_isub G d_D_takeOut_38 ?_
    obtain ⟨v4, hv4, hm⟩ := Option.bind_eq_some_iff.mp hm
    refine j_pV (ty := aY_D 1) G d_D_takeOut_39 fl_D_19 ac_D (aw_T_of_D 1 (by decide) rfl) rfl rfl hv4 ?_
    obtain rfl := Option.some.inj hm
    exact j_vret G E d_D_takeOut_42 ⟨by decide, by decide⟩ ⟨rfl, rfl⟩
  · rw [if_neg hc] at hm
    refine j_aload_n G d_D_takeOut_12 rfl ?_
    obtain ⟨v5, hv5, hm⟩ := Option.bind_eq_some_iff.mp hm
    refine j_gR G d_D_takeOut_13 fl_D_13 hv5 ?_
    refine j_iload_n G d_D_takeOut_16 rfl ?_
    refine j_aload_n G d_D_takeOut_17 rfl ?_
    obtain ⟨v6, hv6, hm⟩ := Option.bind_eq_some_iff.mp hm
    refine j_gR G d_D_takeOut_18 fl_D_13 hv6 ?_
    refine j_iload_n G d_D_takeOut_21 rfl ?_
    refine j_iconst (v := 1) G d_D_takeOut_22 (by decide) ?_
    refine j_iadd G d_D_takeOut_23 ?_
    obtain ⟨v7, hv7, hm⟩ := Option.bind_eq_some_iff.mp hm
    refine j_aald (C := "AppendStore$Rec") G d_D_takeOut_24 rfl hv7 ?_
    obtain ⟨v8, hv8, hm⟩ := Option.bind_eq_some_iff.mp hm
    obtain ⟨v9, hv9, hm⟩ := Option.bind_eq_some_iff.mp hm
    refine j_aast G d_D_takeOut_25 rfl rfl hv8 hv9 ?_
    refine j_iinc (v := s1.1 + 1) G d_D_takeOut_26 rfl (by first | rfl | decide) (by decide) ?_
    refine j_goto (tgt := 2) G d_D_takeOut_29 rfl ?_
    refine j_lv [(0, aRf o), (2, aI (s1.1 + 1))] rfl ?_
    have z9 := hin1 _ (Option.some.inj hm).symm
    exact z9
noncomputable def f_D_insert (w : aw_W) (o : Option Nat) (p1 : Int32) (p2 : Option Nat) : Option (aw_W) :=
  (aw_gI w o 1 1).bind fun v1 =>
  (aw_gR w o 1 0).bind fun v2 =>
  (aw_len w v2 4).bind fun v3 =>
  if v1 = v3 then
    some w
  else
    (aw_gI w o 1 1).bind fun v4 =>
    (aw_wh (σ := Int32 × aw_W) (τ := Int32 × aw_W) (fun s5 =>
      if s5.1 ≤ p1 then
        some (.inr (s5.1, s5.2))
      else
        (aw_gR s5.2 o 1 0).bind fun v6 =>
        (aw_gR s5.2 o 1 0).bind fun v7 =>
        (aw_aR s5.2 v7 4 (s5.1 - (1 : Int32))).bind fun v8 =>
        (aw_obj s5.2 v8 4).bind fun v9 =>
        (aw_sR s5.2 v6 4 s5.1 v8).bind fun v10 =>
        some (.inl (s5.1 + (-1), v10))) (v4, w)).bind fun e11 =>
    (aw_gR e11.2 o 1 0).bind fun v12 =>
    (aw_obj e11.2 p2 4).bind fun v13 =>
    (aw_sR e11.2 v12 4 p1 p2).bind fun v14 =>
    (aw_gI v14 o 1 1).bind fun v15 =>
    (aw_pV v14 o 1 1 (.int (v15 + (1 : Int32)))).bind fun v16 =>
    some v16
abbrev rm_D_insert : Room := { frames := 0, cells := 0, slots := 0, locals := 0 }
set_option maxRecDepth 100000 in
set_option maxHeartbeats 4000000 in
theorem c_D_insert (l : Launch) (hl : l.stackTraces = false) (D : va_G) (dA : Nat → ClassId) (base : Nat) (w : aw_W) (o : Option Nat) (p1 : Int32) (p2 : Option Nat) (r : aw_W) (hm : f_D_insert w o p1 p2 = some r) : aj_Ct l D dA base m_D_insert rm_D_insert [aRf o, aI p1, aRf p2] w (fun v w' => none = v ∧ r = w') := by
  refine aj_enter hl (by decide) (Nat.le_of_ble_eq_true rfl) ?_
  intro Γ G E
  unfold f_D_insert at hm
  refine j_aload_n G d_D_insert_0 rfl ?_
  obtain ⟨v1, hv1, hm⟩ := Option.bind_eq_some_iff.mp hm
  refine j_gI G d_D_insert_1 fl_D_19 hv1 ?_
  refine j_aload_n G d_D_insert_4 rfl ?_
  obtain ⟨v2, hv2, hm⟩ := Option.bind_eq_some_iff.mp hm
  refine j_gR G d_D_insert_5 fl_D_13 hv2 ?_
  obtain ⟨v3, hv3, hm⟩ := Option.bind_eq_some_iff.mp hm
  refine j_alen G d_D_insert_8 rfl hv3 ?_
  refine j_icmp_ne (tgt := 13) G d_D_insert_9 rfl (fun hc => ?_) (fun hc => ?_)
  · rw [if_neg hc] at hm
    refine j_aload_n G d_D_insert_13 rfl ?_
    obtain ⟨v4, hv4, hm⟩ := Option.bind_eq_some_iff.mp hm
    refine j_gI G d_D_insert_14 fl_D_19 hv4 ?_
    refine j_istore_n G d_D_insert_17 (by decide) ?_
    obtain ⟨e5, he5, ho5⟩ := Option.bind_eq_some_iff.mp hm
    clear hm
    refine j_lv [(0, aRf o), (1, aI p1), (2, aRf p2), (3, aI v4)] rfl ?_
    refine aw_wh_elim (fun (s : Int32 × aw_W) => aj_J Γ 4 (0, 0) 18 [(0, aRf o), (1, aI p1), (2, aRf p2), (3, aI s.1)] [] s.2) ?_ he5
    intro s5 x5 hm hin5 hout5
    try dsimp only at hm ⊢
    refine j_iload_n G d_D_insert_18 rfl ?_
    refine j_iload_n G d_D_insert_19 rfl ?_
    refine j_icmp_le (tgt := 43) G d_D_insert_20 rfl (fun hc => ?_) (fun hc => ?_)
    · rw [if_pos hc] at hm
      have q5 := hout5 _ (Option.some.inj hm).symm
      clear hin5 hout5
      subst q5
      clear hm
      have hm := ho5
      clear ho5
      try dsimp only at hm
      refine j_aload_n G d_D_insert_43 rfl ?_
      obtain ⟨v6, hv6, hm⟩ := Option.bind_eq_some_iff.mp hm
      refine j_gR G d_D_insert_44 fl_D_13 hv6 ?_
      refine j_iload_n G d_D_insert_47 rfl ?_
      refine j_aload_n G d_D_insert_48 rfl ?_
      obtain ⟨v7, hv7, hm⟩ := Option.bind_eq_some_iff.mp hm
      obtain ⟨v8, hv8, hm⟩ := Option.bind_eq_some_iff.mp hm
      refine j_aast G d_D_insert_49 rfl rfl hv7 hv8 ?_
      refine j_aload_n G d_D_insert_50 rfl ?_
      refine j_dup G d_D_insert_51 rfl ?_
      obtain ⟨v9, hv9, hm⟩ := Option.bind_eq_some_iff.mp hm
      refine j_gI G d_D_insert_52 fl_D_19 hv9 ?_
      refine j_iconst (v := 1) G d_D_insert_55 (by decide) ?_
      refine j_iadd G d_D_insert_56 ?_
      obtain ⟨v10, hv10, hm⟩ := Option.bind_eq_some_iff.mp hm
      refine j_pV (ty := aY_D 1) G d_D_insert_57 fl_D_19 ac_D (aw_T_of_D 1 (by decide) rfl) rfl rfl hv10 ?_
      obtain rfl := Option.some.inj hm
      exact j_vret G E d_D_insert_60 ⟨by decide, by decide⟩ ⟨rfl, rfl⟩
    · rw [if_neg hc] at hm
      refine j_aload_n G d_D_insert_23 rfl ?_
      obtain ⟨v11, hv11, hm⟩ := Option.bind_eq_some_iff.mp hm
      refine j_gR G d_D_insert_24 fl_D_13 hv11 ?_
      refine j_iload_n G d_D_insert_27 rfl ?_
      refine j_aload_n G d_D_insert_28 rfl ?_
      obtain ⟨v12, hv12, hm⟩ := Option.bind_eq_some_iff.mp hm
      refine j_gR G d_D_insert_29 fl_D_13 hv12 ?_
      refine j_iload_n G d_D_insert_32 rfl ?_
      refine j_iconst (v := 1) G d_D_insert_33 (by decide) ?_
      refine j_isub G d_D_insert_34 ?_
      obtain ⟨v13, hv13, hm⟩ := Option.bind_eq_some_iff.mp hm
      refine j_aald (C := "AppendStore$Rec") G d_D_insert_35 rfl hv13 ?_
      obtain ⟨v14, hv14, hm⟩ := Option.bind_eq_some_iff.mp hm
      obtain ⟨v15, hv15, hm⟩ := Option.bind_eq_some_iff.mp hm
      refine j_aast G d_D_insert_36 rfl rfl hv14 hv15 ?_
      refine j_iinc (v := s5.1 + (-1)) G d_D_insert_37 rfl (by first | rfl | decide) (by decide) ?_
      refine j_goto (tgt := 18) G d_D_insert_40 rfl ?_
      refine j_lv [(0, aRf o), (1, aI p1), (2, aRf p2), (3, aI (s5.1 + (-1)))] rfl ?_
      have z9 := hin5 _ (Option.some.inj hm).symm
      exact z9
  · rw [if_pos hc] at hm
    obtain rfl := Option.some.inj hm
    exact j_vret G E d_D_insert_12 ⟨by decide, by decide⟩ ⟨rfl, rfl⟩
noncomputable def f_D_enter (w : aw_W) (o : Option Nat) (p1 : Option Nat) : Option (aw_W) :=
  (aw_gL w p1 4 2).bind fun v1 =>
  (aw_obj w o 1).bind fun v2 =>
  (f_D_firstFrom w o v1).bind fun v3 =>
  (aw_obj w o 1).bind fun v4 =>
  (f_D_at w o v3).bind fun v5 =>
  (if v5 = none then
      some (0 : Int32)
    else
      (aw_gL w v5 4 2).bind fun v6 =>
      (aw_gL w p1 4 2).bind fun v7 =>
      if (lg_cmp v6 v7) = 0 then
        some (1 : Int32)
      else
        some (0 : Int32) : Option (Int32)).bind fun j8 =>
  (aw_obj w p1 4).bind fun v9 =>
  (f_R_isTombstone w p1).bind fun v10 =>
  (if v10 = 0 then
      if j8 = 0 then
        (aw_obj w o 1).bind fun v11 =>
        (f_D_insert w o v3 p1).bind fun v12 =>
        some v12
      else
        (aw_gR w o 1 0).bind fun v13 =>
        (aw_obj w p1 4).bind fun v14 =>
        (aw_sR w v13 4 v3 p1).bind fun v15 =>
        some v15
    else
      if j8 = 0 then
        some w
      else
        (aw_obj w o 1).bind fun v16 =>
        (f_D_takeOut w o v3).bind fun v17 =>
        some v17 : Option (aw_W)).bind fun j18 =>
  some j18
abbrev rm_D_enter : Room := { frames := 1, cells := 0, slots := 0, locals := 23 }
set_option maxRecDepth 100000 in
set_option maxHeartbeats 4000000 in
theorem c_D_enter (l : Launch) (hl : l.stackTraces = false) (D : va_G) (dA : Nat → ClassId) (base : Nat) (w : aw_W) (o : Option Nat) (p1 : Option Nat) (r : aw_W) (hm : f_D_enter w o p1 = some r) : aj_Ct l D dA base m_D_enter rm_D_enter [aRf o, aRf p1] w (fun v w' => none = v ∧ r = w') := by
  refine aj_enter hl (by decide) (Nat.le_of_ble_eq_true rfl) ?_
  intro Γ G E
  unfold f_D_enter at hm
  refine j_aload_n G d_D_enter_0 rfl ?_
  refine j_aload_n G d_D_enter_1 rfl ?_
  obtain ⟨v1, hv1, hm⟩ := Option.bind_eq_some_iff.mp hm
  refine j_gL G d_D_enter_2 fl_D_31 hv1 ?_
  obtain ⟨v2, hv2, hm⟩ := Option.bind_eq_some_iff.mp hm
  obtain ⟨v3, hv3, hm⟩ := Option.bind_eq_some_iff.mp hm
  refine j_callV (As := [aL v1]) G d_D_enter_5 (c_D_firstFrom _ G.off _ _ _ _ _ _ _ hv3) mw_D_firstFrom mi_D_firstFrom lk_D_23 rfl hv2 rfl rfl (Nat.le_of_ble_eq_true rfl) ⟨by decide, by decide⟩ ⟨by decide, by decide⟩ (fun v9 w9 hp => ?_)
  obtain ⟨rfl, rfl⟩ := hp
  refine j_istore_n G d_D_enter_8 (by decide) ?_
  refine j_aload_n G d_D_enter_9 rfl ?_
  refine j_iload_n G d_D_enter_10 rfl ?_
  obtain ⟨v4, hv4, hm⟩ := Option.bind_eq_some_iff.mp hm
  obtain ⟨v5, hv5, hm⟩ := Option.bind_eq_some_iff.mp hm
  refine j_callV (As := [aI v3]) G d_D_enter_11 (c_D_at _ G.off _ _ _ _ _ _ _ hv5) mw_D_at mi_D_at lk_D_27 rfl hv4 rfl rfl (Nat.le_of_ble_eq_true rfl) ⟨by decide, by decide⟩ ⟨by decide, by decide⟩ (fun v9 w9 hp => ?_)
  obtain ⟨rfl, rfl⟩ := hp
  refine j_astore_n G d_D_enter_14 (by decide) ?_
  refine j_aload_n G d_D_enter_15 rfl ?_
  obtain ⟨j6, hj6, ho6⟩ := Option.bind_eq_some_iff.mp hm
  clear hm
  have hJ6 : aj_J Γ 5 (0, 0) 36 [(0, aRf o), (1, aRf p1), (2, aI v3)] [aI j6] w := by
    clear hj6
    have hm := ho6
    clear ho6
    refine j_istore G d_D_enter_36 (by decide) ?_
    refine j_aload_n G d_D_enter_38 rfl ?_
    obtain ⟨v7, hv7, hm⟩ := Option.bind_eq_some_iff.mp hm
    obtain ⟨v8, hv8, hm⟩ := Option.bind_eq_some_iff.mp hm
    refine j_callV (As := []) G d_D_enter_39 (c_R_isTombstone _ G.off _ _ _ _ _ _ hv8) mw_R_isTombstone mi_R_isTombstone lk_D_39 rfl hv7 rfl rfl (Nat.le_of_ble_eq_true rfl) ⟨by decide, by decide⟩ ⟨by decide, by decide⟩ (fun v9 w9 hp => ?_)
    obtain ⟨rfl, rfl⟩ := hp
    obtain ⟨j9, hj9, ho9⟩ := Option.bind_eq_some_iff.mp hm
    clear hm
    have hJ9 : aj_J Γ 5 (0, 0) 79 [] [] j9 := by
      clear hj9
      have hm := ho9
      clear ho9
      obtain rfl := Option.some.inj hm
      exact j_vret G E d_D_enter_79 ⟨by decide, by decide⟩ ⟨rfl, rfl⟩
    clear ho9
    have hm := hj9
    clear hj9
    refine j_if_eq (tgt := 58) G d_D_enter_42 rfl (fun hc => ?_) (fun hc => ?_)
    · rw [if_pos hc] at hm
      refine j_iload G d_D_enter_58 rfl ?_
      refine j_if_eq (tgt := 73) G d_D_enter_60 rfl (fun hc => ?_) (fun hc => ?_)
      · rw [if_pos hc] at hm
        refine j_aload_n G d_D_enter_73 rfl ?_
        refine j_iload_n G d_D_enter_74 rfl ?_
        refine j_aload_n G d_D_enter_75 rfl ?_
        obtain ⟨v10, hv10, hm⟩ := Option.bind_eq_some_iff.mp hm
        obtain ⟨v11, hv11, hm⟩ := Option.bind_eq_some_iff.mp hm
        refine j_callV (As := [aI v3, aRf p1]) G d_D_enter_76 (c_D_insert _ G.off _ _ _ _ _ _ _ _ hv11) mw_D_insert mi_D_insert lk_D_47 rfl hv10 rfl rfl (Nat.le_of_ble_eq_true rfl) ⟨by decide, by decide⟩ ⟨by decide, by decide⟩ (fun v9 w9 hp => ?_)
        obtain ⟨rfl, rfl⟩ := hp
        obtain rfl := Option.some.inj hm
        refine j_lv [] rfl ?_
        exact hJ9
      · rw [if_neg hc] at hm
        refine j_aload_n G d_D_enter_63 rfl ?_
        obtain ⟨v12, hv12, hm⟩ := Option.bind_eq_some_iff.mp hm
        refine j_gR G d_D_enter_64 fl_D_13 hv12 ?_
        refine j_iload_n G d_D_enter_67 rfl ?_
        refine j_aload_n G d_D_enter_68 rfl ?_
        obtain ⟨v13, hv13, hm⟩ := Option.bind_eq_some_iff.mp hm
        obtain ⟨v14, hv14, hm⟩ := Option.bind_eq_some_iff.mp hm
        refine j_aast G d_D_enter_69 rfl rfl hv13 hv14 ?_
        refine j_goto (tgt := 79) G d_D_enter_70 rfl ?_
        obtain rfl := Option.some.inj hm
        refine j_lv [] rfl ?_
        exact hJ9
    · rw [if_neg hc] at hm
      refine j_iload G d_D_enter_45 rfl ?_
      refine j_if_eq (tgt := 79) G d_D_enter_47 rfl (fun hc => ?_) (fun hc => ?_)
      · rw [if_pos hc] at hm
        obtain rfl := Option.some.inj hm
        refine j_lv [] rfl ?_
        exact hJ9
      · rw [if_neg hc] at hm
        refine j_aload_n G d_D_enter_50 rfl ?_
        refine j_iload_n G d_D_enter_51 rfl ?_
        obtain ⟨v15, hv15, hm⟩ := Option.bind_eq_some_iff.mp hm
        obtain ⟨v16, hv16, hm⟩ := Option.bind_eq_some_iff.mp hm
        refine j_callV (As := [aI v3]) G d_D_enter_52 (c_D_takeOut _ G.off _ _ _ _ _ _ _ hv16) mw_D_takeOut mi_D_takeOut lk_D_43 rfl hv15 rfl rfl (Nat.le_of_ble_eq_true rfl) ⟨by decide, by decide⟩ ⟨by decide, by decide⟩ (fun v9 w9 hp => ?_)
        obtain ⟨rfl, rfl⟩ := hp
        refine j_goto (tgt := 79) G d_D_enter_55 rfl ?_
        obtain rfl := Option.some.inj hm
        refine j_lv [] rfl ?_
        exact hJ9
  clear ho6
  have hm := hj6
  clear hj6
  refine j_ifnull (tgt := 35) G d_D_enter_16 rfl (fun hc => ?_) (fun hc => ?_)
  · rw [if_pos hc] at hm
    refine j_iconst (v := 0) G d_D_enter_35 (by decide) ?_
    obtain rfl := Option.some.inj hm
    refine j_lv [(0, aRf o), (1, aRf p1), (2, aI v3)] rfl ?_
    exact hJ6
  · rw [if_neg hc] at hm
    refine j_aload_n G d_D_enter_19 rfl ?_
    obtain ⟨v17, hv17, hm⟩ := Option.bind_eq_some_iff.mp hm
    refine j_gL G d_D_enter_20 fl_D_31 hv17 ?_
    refine j_aload_n G d_D_enter_23 rfl ?_
    obtain ⟨v18, hv18, hm⟩ := Option.bind_eq_some_iff.mp hm
    refine j_gL G d_D_enter_24 fl_D_31 hv18 ?_
    refine j_lcmp G d_D_enter_27 ?_
    refine j_if_ne (tgt := 35) G d_D_enter_28 rfl (fun hc => ?_) (fun hc => ?_)
    · rw [if_neg hc] at hm
      refine j_iconst (v := 0) G d_D_enter_35 (by decide) ?_
      obtain rfl := Option.some.inj hm
      refine j_lv [(0, aRf o), (1, aRf p1), (2, aI v3)] rfl ?_
      exact hJ6
    · rw [if_pos hc] at hm
      refine j_iconst (v := 1) G d_D_enter_31 (by decide) ?_
      refine j_goto (tgt := 36) G d_D_enter_32 rfl ?_
      obtain rfl := Option.some.inj hm
      refine j_lv [(0, aRf o), (1, aRf p1), (2, aI v3)] rfl ?_
      exact hJ6
noncomputable def f_D_find (w : aw_W) (o : Option Nat) (p1 : Int64) : Option (Option Nat) :=
  (aw_obj w o 1).bind fun v1 =>
  (f_D_firstFrom w o p1).bind fun v2 =>
  (aw_obj w o 1).bind fun v3 =>
  (f_D_at w o v2).bind fun v4 =>
  (if v4 = none then
      some none
    else
      (aw_gL w v4 4 2).bind fun v5 =>
      if (lg_cmp v5 p1) = 0 then
        some v4
      else
        some none : Option (Option Nat)).bind fun j6 =>
  some j6
abbrev rm_D_find : Room := { frames := 1, cells := 0, slots := 0, locals := 23 }
set_option maxRecDepth 100000 in
set_option maxHeartbeats 4000000 in
theorem c_D_find (l : Launch) (hl : l.stackTraces = false) (D : va_G) (dA : Nat → ClassId) (base : Nat) (w : aw_W) (o : Option Nat) (p1 : Int64) (r : Option Nat) (hm : f_D_find w o p1 = some r) : aj_Ct l D dA base m_D_find rm_D_find [aRf o, aL p1] w (fun v w' => some (aRf r) = v ∧ w = w') := by
  refine aj_enter hl (by decide) (Nat.le_of_ble_eq_true rfl) ?_
  intro Γ G E
  unfold f_D_find at hm
  refine j_aload_n G d_D_find_0 rfl ?_
  refine j_aload_n G d_D_find_1 rfl ?_
  refine j_lload_n G d_D_find_2 rfl ?_
  obtain ⟨v1, hv1, hm⟩ := Option.bind_eq_some_iff.mp hm
  obtain ⟨v2, hv2, hm⟩ := Option.bind_eq_some_iff.mp hm
  refine j_callV (As := [aL p1]) G d_D_find_3 (c_D_firstFrom _ G.off _ _ _ _ _ _ _ hv2) mw_D_firstFrom mi_D_firstFrom lk_D_23 rfl hv1 rfl rfl (Nat.le_of_ble_eq_true rfl) ⟨by decide, by decide⟩ ⟨by decide, by decide⟩ (fun v9 w9 hp => ?_)
  obtain ⟨rfl, rfl⟩ := hp
  obtain ⟨v3, hv3, hm⟩ := Option.bind_eq_some_iff.mp hm
  obtain ⟨v4, hv4, hm⟩ := Option.bind_eq_some_iff.mp hm
  refine j_callV (As := [aI v2]) G d_D_find_6 (c_D_at _ G.off _ _ _ _ _ _ _ hv4) mw_D_at mi_D_at lk_D_27 rfl hv3 rfl rfl (Nat.le_of_ble_eq_true rfl) ⟨by decide, by decide⟩ ⟨by decide, by decide⟩ (fun v9 w9 hp => ?_)
  obtain ⟨rfl, rfl⟩ := hp
  refine j_astore_n G d_D_find_9 (by decide) ?_
  refine j_aload_n G d_D_find_10 rfl ?_
  obtain ⟨j5, hj5, ho5⟩ := Option.bind_eq_some_iff.mp hm
  clear hm
  have hJ5 : aj_J Γ 4 (0, 0) 28 [] [aRf j5] w := by
    clear hj5
    have hm := ho5
    clear ho5
    obtain rfl := Option.some.inj hm
    exact j_aret G E d_D_find_28 ⟨by decide, by decide⟩ ⟨rfl, rfl⟩
  clear ho5
  have hm := hj5
  clear hj5
  refine j_ifnull (tgt := 27) G d_D_find_11 rfl (fun hc => ?_) (fun hc => ?_)
  · rw [if_pos hc] at hm
    refine j_null G d_D_find_27 ?_
    obtain rfl := Option.some.inj hm
    refine j_lv [] rfl ?_
    exact hJ5
  · rw [if_neg hc] at hm
    refine j_aload_n G d_D_find_14 rfl ?_
    obtain ⟨v6, hv6, hm⟩ := Option.bind_eq_some_iff.mp hm
    refine j_gL G d_D_find_15 fl_D_31 hv6 ?_
    refine j_lload_n G d_D_find_18 rfl ?_
    refine j_lcmp G d_D_find_19 ?_
    refine j_if_ne (tgt := 27) G d_D_find_20 rfl (fun hc => ?_) (fun hc => ?_)
    · rw [if_neg hc] at hm
      refine j_null G d_D_find_27 ?_
      obtain rfl := Option.some.inj hm
      refine j_lv [] rfl ?_
      exact hJ5
    · rw [if_pos hc] at hm
      refine j_aload_n G d_D_find_23 rfl ?_
      refine j_goto (tgt := 28) G d_D_find_24 rfl ?_
      obtain rfl := Option.some.inj hm
      refine j_lv [] rfl ?_
      exact hJ5
noncomputable def f_R_keySize (w : aw_W) (o : Option Nat) : Option (Int32) :=
  (aw_gL w o 4 2).bind fun v1 =>
  (f_K_size w v1).bind fun v2 =>
  some v2
abbrev rm_R_keySize : Room := { frames := 1, cells := 0, slots := 0, locals := 21 }
set_option maxRecDepth 100000 in
set_option maxHeartbeats 4000000 in
theorem c_R_keySize (l : Launch) (hl : l.stackTraces = false) (D : va_G) (dA : Nat → ClassId) (base : Nat) (w : aw_W) (o : Option Nat) (r : Int32) (hm : f_R_keySize w o = some r) : aj_Ct l D dA base m_R_keySize rm_R_keySize [aRf o] w (fun v w' => some (aI r) = v ∧ w = w') := by
  refine aj_enter hl (by decide) (Nat.le_of_ble_eq_true rfl) ?_
  intro Γ G E
  unfold f_R_keySize at hm
  refine j_aload_n G d_R_keySize_0 rfl ?_
  obtain ⟨v1, hv1, hm⟩ := Option.bind_eq_some_iff.mp hm
  refine j_gL G d_R_keySize_1 fl_R_15 hv1 ?_
  obtain ⟨v2, hv2, hm⟩ := Option.bind_eq_some_iff.mp hm
  refine j_callS (As := [aL v1]) G d_R_keySize_4 (c_K_size _ G.off _ _ _ _ _ _ hv2) mw_K_size ms_K_size lk_R_19 rfl rfl (Nat.le_of_ble_eq_true rfl) ⟨by decide, by decide⟩ ⟨by decide, by decide⟩ (fun v9 w9 hp => ?_)
  obtain ⟨rfl, rfl⟩ := hp
  obtain rfl := Option.some.inj hm
  exact j_iret G E d_R_keySize_7 ⟨by decide, by decide⟩ ⟨rfl, rfl⟩
noncomputable def f_R_size (w : aw_W) (o : Option Nat) : Option (Int32) :=
  (aw_obj w o 4).bind fun v1 =>
  (f_R_keySize w o).bind fun v2 =>
  (aw_gI w o 4 3).bind fun v3 =>
  (f_Y_recordBytes w v2 v3).bind fun v4 =>
  some v4
abbrev rm_R_size : Room := { frames := 2, cells := 0, slots := 0, locals := 41 }
set_option maxRecDepth 100000 in
set_option maxHeartbeats 4000000 in
theorem c_R_size (l : Launch) (hl : l.stackTraces = false) (D : va_G) (dA : Nat → ClassId) (base : Nat) (w : aw_W) (o : Option Nat) (r : Int32) (hm : f_R_size w o = some r) : aj_Ct l D dA base m_R_size rm_R_size [aRf o] w (fun v w' => some (aI r) = v ∧ w = w') := by
  refine aj_enter hl (by decide) (Nat.le_of_ble_eq_true rfl) ?_
  intro Γ G E
  unfold f_R_size at hm
  refine j_aload_n G d_R_size_0 rfl ?_
  obtain ⟨v1, hv1, hm⟩ := Option.bind_eq_some_iff.mp hm
  obtain ⟨v2, hv2, hm⟩ := Option.bind_eq_some_iff.mp hm
  refine j_callV (As := []) G d_R_size_1 (c_R_keySize _ G.off _ _ _ _ _ _ hv2) mw_R_keySize mi_R_keySize lk_R_25 rfl hv1 rfl rfl (Nat.le_of_ble_eq_true rfl) ⟨by decide, by decide⟩ ⟨by decide, by decide⟩ (fun v9 w9 hp => ?_)
  obtain ⟨rfl, rfl⟩ := hp
  refine j_aload_n G d_R_size_4 rfl ?_
  obtain ⟨v3, hv3, hm⟩ := Option.bind_eq_some_iff.mp hm
  refine j_gI G d_R_size_5 fl_R_7 hv3 ?_
  obtain ⟨v4, hv4, hm⟩ := Option.bind_eq_some_iff.mp hm
  refine j_callS (As := [aI v2, aI v3]) G d_R_size_8 (c_Y_recordBytes _ G.off _ _ _ _ _ _ _ hv4) mw_Y_recordBytes ms_Y_recordBytes lk_R_29 rfl rfl (Nat.le_of_ble_eq_true rfl) ⟨by decide, by decide⟩ ⟨by decide, by decide⟩ (fun v9 w9 hp => ?_)
  obtain ⟨rfl, rfl⟩ := hp
  obtain rfl := Option.some.inj hm
  exact j_iret G E d_R_size_11 ⟨by decide, by decide⟩ ⟨rfl, rfl⟩
noncomputable def f_F_hasRightSum (w : aw_W) (o : Option Nat) (p1 : Int32) (p2 : Int32) : Option (Int32) :=
  (aw_gR w o 6 0).bind fun v1 =>
  (aw_obj w v1 3).bind fun v2 =>
  (f_O_number w v1 p1 (4 : Int32)).bind fun v3 =>
  (aw_gR w o 6 0).bind fun v4 =>
  (aw_obj w v4 3).bind fun v5 =>
  (f_O_sum w v4 (p1 + (4 : Int32)) (p1 + p2)).bind fun v6 =>
  (if (lg_cmp v3 v6) = 0 then
      some (1 : Int32)
    else
      some (0 : Int32) : Option (Int32)).bind fun j7 =>
  (aw_zz j7).bind fun v8 =>
  some j7
abbrev rm_F_hasRightSum : Room := { frames := 2, cells := 0, slots := 0, locals := 46 }
set_option maxRecDepth 100000 in
set_option maxHeartbeats 4000000 in
theorem c_F_hasRightSum (l : Launch) (hl : l.stackTraces = false) (D : va_G) (dA : Nat → ClassId) (base : Nat) (w : aw_W) (o : Option Nat) (p1 : Int32) (p2 : Int32) (r : Int32) (hm : f_F_hasRightSum w o p1 p2 = some r) : aj_Ct l D dA base m_F_hasRightSum rm_F_hasRightSum [aRf o, aI p1, aI p2] w (fun v w' => some (aI r) = v ∧ w = w') := by
  refine aj_enter hl (by decide) (Nat.le_of_ble_eq_true rfl) ?_
  intro Γ G E
  unfold f_F_hasRightSum at hm
  refine j_aload_n G d_F_hasRightSum_0 rfl ?_
  obtain ⟨v1, hv1, hm⟩ := Option.bind_eq_some_iff.mp hm
  refine j_gR G d_F_hasRightSum_1 fl_F_14 hv1 ?_
  refine j_iload_n G d_F_hasRightSum_4 rfl ?_
  refine j_iconst (v := 4) G d_F_hasRightSum_5 (by decide) ?_
  obtain ⟨v2, hv2, hm⟩ := Option.bind_eq_some_iff.mp hm
  obtain ⟨v3, hv3, hm⟩ := Option.bind_eq_some_iff.mp hm
  refine j_callV (As := [aI p1, aI (4 : Int32)]) G d_F_hasRightSum_6 (c_O_number _ G.off _ _ _ _ _ _ _ _ hv3) mw_O_number mi_O_number lk_F_99 rfl hv2 rfl rfl (Nat.le_of_ble_eq_true rfl) ⟨by decide, by decide⟩ ⟨by decide, by decide⟩ (fun v9 w9 hp => ?_)
  obtain ⟨rfl, rfl⟩ := hp
  refine j_aload_n G d_F_hasRightSum_9 rfl ?_
  obtain ⟨v4, hv4, hm⟩ := Option.bind_eq_some_iff.mp hm
  refine j_gR G d_F_hasRightSum_10 fl_F_14 hv4 ?_
  refine j_iload_n G d_F_hasRightSum_13 rfl ?_
  refine j_iconst (v := 4) G d_F_hasRightSum_14 (by decide) ?_
  refine j_iadd G d_F_hasRightSum_15 ?_
  refine j_iload_n G d_F_hasRightSum_16 rfl ?_
  refine j_iload_n G d_F_hasRightSum_17 rfl ?_
  refine j_iadd G d_F_hasRightSum_18 ?_
  obtain ⟨v5, hv5, hm⟩ := Option.bind_eq_some_iff.mp hm
  obtain ⟨v6, hv6, hm⟩ := Option.bind_eq_some_iff.mp hm
  refine j_callV (As := [aI (p1 + (4 : Int32)), aI (p1 + p2)]) G d_F_hasRightSum_19 (c_O_sum _ G.off _ _ _ _ _ _ _ _ hv6) mw_O_sum mi_O_sum lk_F_76 rfl hv5 rfl rfl (Nat.le_of_ble_eq_true rfl) ⟨by decide, by decide⟩ ⟨by decide, by decide⟩ (fun v9 w9 hp => ?_)
  obtain ⟨rfl, rfl⟩ := hp
  refine j_lcmp G d_F_hasRightSum_22 ?_
  obtain ⟨j7, hj7, ho7⟩ := Option.bind_eq_some_iff.mp hm
  clear hm
  have hJ7 : aj_J Γ 3 (0, 0) 31 [] [aI j7] w := by
    clear hj7
    have hm := ho7
    clear ho7
    obtain ⟨v8, hv8, hm⟩ := Option.bind_eq_some_iff.mp hm
    obtain rfl := Option.some.inj hm
    exact j_zret G E d_F_hasRightSum_31 ⟨by decide, by decide⟩ (aw_zz_some hv8) ⟨rfl, rfl⟩
  clear ho7
  have hm := hj7
  clear hj7
  refine j_if_ne (tgt := 30) G d_F_hasRightSum_23 rfl (fun hc => ?_) (fun hc => ?_)
  · rw [if_neg hc] at hm
    refine j_iconst (v := 0) G d_F_hasRightSum_30 (by decide) ?_
    obtain rfl := Option.some.inj hm
    refine j_lv [] rfl ?_
    exact hJ7
  · rw [if_pos hc] at hm
    refine j_iconst (v := 1) G d_F_hasRightSum_26 (by decide) ?_
    refine j_goto (tgt := 31) G d_F_hasRightSum_27 rfl ?_
    obtain rfl := Option.some.inj hm
    refine j_lv [] rfl ?_
    exact hJ7
noncomputable def f_R_isBroken (w : aw_W) (o : Option Nat) : Option (Int32) :=
  (aw_gR w o 4 0).bind fun v1 =>
  (if v1 = none then
      some (1 : Int32)
    else
      (aw_gR w o 4 0).bind fun v2 =>
      (aw_gI w o 4 1).bind fun v3 =>
      (aw_obj w o 4).bind fun v4 =>
      (f_R_size w o).bind fun v5 =>
      (aw_obj w v2 6).bind fun v6 =>
      (f_F_hasRightSum w v2 v3 v5).bind fun v7 =>
      if v7 = 0 then
        some (1 : Int32)
      else
        some (0 : Int32) : Option (Int32)).bind fun j8 =>
  (aw_zz j8).bind fun v9 =>
  some j8
abbrev rm_R_isBroken : Room := { frames := 3, cells := 0, slots := 0, locals := 68 }
set_option maxRecDepth 100000 in
set_option maxHeartbeats 4000000 in
theorem c_R_isBroken (l : Launch) (hl : l.stackTraces = false) (D : va_G) (dA : Nat → ClassId) (base : Nat) (w : aw_W) (o : Option Nat) (r : Int32) (hm : f_R_isBroken w o = some r) : aj_Ct l D dA base m_R_isBroken rm_R_isBroken [aRf o] w (fun v w' => some (aI r) = v ∧ w = w') := by
  refine aj_enter hl (by decide) (Nat.le_of_ble_eq_true rfl) ?_
  intro Γ G E
  unfold f_R_isBroken at hm
  refine j_aload_n G d_R_isBroken_0 rfl ?_
  obtain ⟨v1, hv1, hm⟩ := Option.bind_eq_some_iff.mp hm
  refine j_gR G d_R_isBroken_1 fl_R_33 hv1 ?_
  obtain ⟨j2, hj2, ho2⟩ := Option.bind_eq_some_iff.mp hm
  clear hm
  have hJ2 : aj_J Γ 1 (0, 0) 30 [] [aI j2] w := by
    clear hj2
    have hm := ho2
    clear ho2
    obtain ⟨v3, hv3, hm⟩ := Option.bind_eq_some_iff.mp hm
    obtain rfl := Option.some.inj hm
    exact j_zret G E d_R_isBroken_30 ⟨by decide, by decide⟩ (aw_zz_some hv3) ⟨rfl, rfl⟩
  clear ho2
  have hm := hj2
  clear hj2
  refine j_ifnull (tgt := 25) G d_R_isBroken_4 rfl (fun hc => ?_) (fun hc => ?_)
  · rw [if_pos hc] at hm
    refine j_iconst (v := 1) G d_R_isBroken_25 (by decide) ?_
    refine j_goto (tgt := 30) G d_R_isBroken_26 rfl ?_
    obtain rfl := Option.some.inj hm
    refine j_lv [] rfl ?_
    exact hJ2
  · rw [if_neg hc] at hm
    refine j_aload_n G d_R_isBroken_7 rfl ?_
    obtain ⟨v4, hv4, hm⟩ := Option.bind_eq_some_iff.mp hm
    refine j_gR G d_R_isBroken_8 fl_R_33 hv4 ?_
    refine j_aload_n G d_R_isBroken_11 rfl ?_
    obtain ⟨v5, hv5, hm⟩ := Option.bind_eq_some_iff.mp hm
    refine j_gI G d_R_isBroken_12 fl_R_42 hv5 ?_
    refine j_aload_n G d_R_isBroken_15 rfl ?_
    obtain ⟨v6, hv6, hm⟩ := Option.bind_eq_some_iff.mp hm
    obtain ⟨v7, hv7, hm⟩ := Option.bind_eq_some_iff.mp hm
    refine j_callV (As := []) G d_R_isBroken_16 (c_R_size _ G.off _ _ _ _ _ _ hv7) mw_R_size mi_R_size lk_R_45 rfl hv6 rfl rfl (Nat.le_of_ble_eq_true rfl) ⟨by decide, by decide⟩ ⟨by decide, by decide⟩ (fun v9 w9 hp => ?_)
    obtain ⟨rfl, rfl⟩ := hp
    obtain ⟨v8, hv8, hm⟩ := Option.bind_eq_some_iff.mp hm
    obtain ⟨v9, hv9, hm⟩ := Option.bind_eq_some_iff.mp hm
    refine j_callV (As := [aI v5, aI v7]) G d_R_isBroken_19 (c_F_hasRightSum _ G.off _ _ _ _ _ _ _ _ hv9) mw_F_hasRightSum mi_F_hasRightSum lk_R_47 rfl hv8 rfl rfl (Nat.le_of_ble_eq_true rfl) ⟨by decide, by decide⟩ ⟨by decide, by decide⟩ (fun v9 w9 hp => ?_)
    obtain ⟨rfl, rfl⟩ := hp
    refine j_if_ne (tgt := 29) G d_R_isBroken_22 rfl (fun hc => ?_) (fun hc => ?_)
    · rw [if_neg hc] at hm
      refine j_iconst (v := 0) G d_R_isBroken_29 (by decide) ?_
      obtain rfl := Option.some.inj hm
      refine j_lv [] rfl ?_
      exact hJ2
    · rw [if_pos hc] at hm
      refine j_iconst (v := 1) G d_R_isBroken_25 (by decide) ?_
      refine j_goto (tgt := 30) G d_R_isBroken_26 rfl ?_
      obtain rfl := Option.some.inj hm
      refine j_lv [] rfl ?_
      exact hJ2
noncomputable def f_R_value (w : aw_W) (o : Option Nat) : Option (Int64) :=
  (aw_gR w o 4 0).bind fun v1 =>
  (if v1 = none then
      some (0 : Int64)
    else
      (aw_gR w o 4 0).bind fun v2 =>
      (aw_obj w v2 6).bind fun v3 =>
      (f_F_bytes w v2).bind fun v4 =>
      (aw_gI w o 4 1).bind fun v5 =>
      (aw_obj w o 4).bind fun v6 =>
      (f_R_keySize w o).bind fun v7 =>
      (aw_gI w o 4 3).bind fun v8 =>
      (f_Y_valueBytes w v8).bind fun v9 =>
      (aw_obj w v4 3).bind fun v10 =>
      (f_O_number w v4 ((v5 + (8 : Int32)) + v7) v9).bind fun v11 =>
      some v11 : Option (Int64)).bind fun j12 =>
  some j12
abbrev rm_R_value : Room := { frames := 2, cells := 0, slots := 0, locals := 46 }
set_option maxRecDepth 100000 in
set_option maxHeartbeats 4000000 in
theorem c_R_value (l : Launch) (hl : l.stackTraces = false) (D : va_G) (dA : Nat → ClassId) (base : Nat) (w : aw_W) (o : Option Nat) (r : Int64) (hm : f_R_value w o = some r) : aj_Ct l D dA base m_R_value rm_R_value [aRf o] w (fun v w' => some (aL r) = v ∧ w = w') := by
  refine aj_enter hl (by decide) (Nat.le_of_ble_eq_true rfl) ?_
  intro Γ G E
  unfold f_R_value at hm
  refine j_aload_n G d_R_value_0 rfl ?_
  obtain ⟨v1, hv1, hm⟩ := Option.bind_eq_some_iff.mp hm
  refine j_gR G d_R_value_1 fl_R_33 hv1 ?_
  obtain ⟨j2, hj2, ho2⟩ := Option.bind_eq_some_iff.mp hm
  clear hm
  have hJ2 : aj_J Γ 1 (0, 0) 40 [] [aL j2] w := by
    clear hj2
    have hm := ho2
    clear ho2
    obtain rfl := Option.some.inj hm
    exact j_lret G E d_R_value_40 ⟨by decide, by decide⟩ ⟨rfl, rfl⟩
  clear ho2
  have hm := hj2
  clear hj2
  refine j_ifnonnull (tgt := 11) G d_R_value_4 rfl (fun hc => ?_) (fun hc => ?_)
  · rw [if_neg hc] at hm
    refine j_aload_n G d_R_value_11 rfl ?_
    obtain ⟨v3, hv3, hm⟩ := Option.bind_eq_some_iff.mp hm
    refine j_gR G d_R_value_12 fl_R_33 hv3 ?_
    obtain ⟨v4, hv4, hm⟩ := Option.bind_eq_some_iff.mp hm
    obtain ⟨v5, hv5, hm⟩ := Option.bind_eq_some_iff.mp hm
    refine j_callV (As := []) G d_R_value_15 (c_F_bytes _ G.off _ _ _ _ _ _ hv5) mw_F_bytes mi_F_bytes lk_R_51 rfl hv4 rfl rfl (Nat.le_of_ble_eq_true rfl) ⟨by decide, by decide⟩ ⟨by decide, by decide⟩ (fun v9 w9 hp => ?_)
    obtain ⟨rfl, rfl⟩ := hp
    refine j_aload_n G d_R_value_18 rfl ?_
    obtain ⟨v6, hv6, hm⟩ := Option.bind_eq_some_iff.mp hm
    refine j_gI G d_R_value_19 fl_R_42 hv6 ?_
    refine j_bipush (v := 8) G d_R_value_22 (by decide) ?_
    refine j_iadd G d_R_value_24 ?_
    refine j_aload_n G d_R_value_25 rfl ?_
    obtain ⟨v7, hv7, hm⟩ := Option.bind_eq_some_iff.mp hm
    obtain ⟨v8, hv8, hm⟩ := Option.bind_eq_some_iff.mp hm
    refine j_callV (As := []) G d_R_value_26 (c_R_keySize _ G.off _ _ _ _ _ _ hv8) mw_R_keySize mi_R_keySize lk_R_25 rfl hv7 rfl rfl (Nat.le_of_ble_eq_true rfl) ⟨by decide, by decide⟩ ⟨by decide, by decide⟩ (fun v9 w9 hp => ?_)
    obtain ⟨rfl, rfl⟩ := hp
    refine j_iadd G d_R_value_29 ?_
    refine j_aload_n G d_R_value_30 rfl ?_
    obtain ⟨v9, hv9, hm⟩ := Option.bind_eq_some_iff.mp hm
    refine j_gI G d_R_value_31 fl_R_7 hv9 ?_
    obtain ⟨v10, hv10, hm⟩ := Option.bind_eq_some_iff.mp hm
    refine j_callS (As := [aI v9]) G d_R_value_34 (c_Y_valueBytes _ G.off _ _ _ _ _ _ hv10) mw_Y_valueBytes ms_Y_valueBytes lk_R_55 rfl rfl (Nat.le_of_ble_eq_true rfl) ⟨by decide, by decide⟩ ⟨by decide, by decide⟩ (fun v9 w9 hp => ?_)
    obtain ⟨rfl, rfl⟩ := hp
    obtain ⟨v11, hv11, hm⟩ := Option.bind_eq_some_iff.mp hm
    obtain ⟨v12, hv12, hm⟩ := Option.bind_eq_some_iff.mp hm
    refine j_callV (As := [aI ((v6 + (8 : Int32)) + v8), aI v10]) G d_R_value_37 (c_O_number _ G.off _ _ _ _ _ _ _ _ hv12) mw_O_number mi_O_number lk_R_59 rfl hv11 rfl rfl (Nat.le_of_ble_eq_true rfl) ⟨by decide, by decide⟩ ⟨by decide, by decide⟩ (fun v9 w9 hp => ?_)
    obtain ⟨rfl, rfl⟩ := hp
    obtain rfl := Option.some.inj hm
    refine j_lv [] rfl ?_
    exact hJ2
  · rw [if_pos hc] at hm
    refine j_lconst (v := 0) G d_R_value_7 (by decide) ?_
    refine j_goto (tgt := 40) G d_R_value_8 rfl ?_
    obtain rfl := Option.some.inj hm
    refine j_lv [] rfl ?_
    exact hJ2
noncomputable def f_D_count (w : aw_W) (o : Option Nat) : Option (Int32) :=
  (aw_gI w o 1 1).bind fun v1 =>
  some v1
abbrev rm_D_count : Room := { frames := 0, cells := 0, slots := 0, locals := 0 }
set_option maxRecDepth 100000 in
set_option maxHeartbeats 4000000 in
theorem c_D_count (l : Launch) (hl : l.stackTraces = false) (D : va_G) (dA : Nat → ClassId) (base : Nat) (w : aw_W) (o : Option Nat) (r : Int32) (hm : f_D_count w o = some r) : aj_Ct l D dA base m_D_count rm_D_count [aRf o] w (fun v w' => some (aI r) = v ∧ w = w') := by
  refine aj_enter hl (by decide) (Nat.le_of_ble_eq_true rfl) ?_
  intro Γ G E
  unfold f_D_count at hm
  refine j_aload_n G d_D_count_0 rfl ?_
  obtain ⟨v1, hv1, hm⟩ := Option.bind_eq_some_iff.mp hm
  refine j_gI G d_D_count_1 fl_D_19 hv1 ?_
  obtain rfl := Option.some.inj hm
  exact j_iret G E d_D_count_4 ⟨by decide, by decide⟩ ⟨rfl, rfl⟩
noncomputable def f_F_number (w : aw_W) (o : Option Nat) : Option (Int32) :=
  (aw_gI w o 6 4).bind fun v1 =>
  some v1
abbrev rm_F_number : Room := { frames := 0, cells := 0, slots := 0, locals := 0 }
set_option maxRecDepth 100000 in
set_option maxHeartbeats 4000000 in
theorem c_F_number (l : Launch) (hl : l.stackTraces = false) (D : va_G) (dA : Nat → ClassId) (base : Nat) (w : aw_W) (o : Option Nat) (r : Int32) (hm : f_F_number w o = some r) : aj_Ct l D dA base m_F_number rm_F_number [aRf o] w (fun v w' => some (aI r) = v ∧ w = w') := by
  refine aj_enter hl (by decide) (Nat.le_of_ble_eq_true rfl) ?_
  intro Γ G E
  unfold f_F_number at hm
  refine j_aload_n G d_F_number_0 rfl ?_
  obtain ⟨v1, hv1, hm⟩ := Option.bind_eq_some_iff.mp hm
  refine j_gI G d_F_number_1 fl_F_37 hv1 ?_
  obtain rfl := Option.some.inj hm
  exact j_iret G E d_F_number_4 ⟨by decide, by decide⟩ ⟨rfl, rfl⟩
noncomputable def f_R_fileNumber (w : aw_W) (o : Option Nat) : Option (Int32) :=
  (aw_gR w o 4 0).bind fun v1 =>
  (if v1 = none then
      some (0 : Int32)
    else
      (aw_gR w o 4 0).bind fun v2 =>
      (aw_obj w v2 6).bind fun v3 =>
      (f_F_number w v2).bind fun v4 =>
      some v4 : Option (Int32)).bind fun j5 =>
  some j5
abbrev rm_R_fileNumber : Room := { frames := 1, cells := 0, slots := 0, locals := 20 }
set_option maxRecDepth 100000 in
set_option maxHeartbeats 4000000 in
theorem c_R_fileNumber (l : Launch) (hl : l.stackTraces = false) (D : va_G) (dA : Nat → ClassId) (base : Nat) (w : aw_W) (o : Option Nat) (r : Int32) (hm : f_R_fileNumber w o = some r) : aj_Ct l D dA base m_R_fileNumber rm_R_fileNumber [aRf o] w (fun v w' => some (aI r) = v ∧ w = w') := by
  refine aj_enter hl (by decide) (Nat.le_of_ble_eq_true rfl) ?_
  intro Γ G E
  unfold f_R_fileNumber at hm
  refine j_aload_n G d_R_fileNumber_0 rfl ?_
  obtain ⟨v1, hv1, hm⟩ := Option.bind_eq_some_iff.mp hm
  refine j_gR G d_R_fileNumber_1 fl_R_33 hv1 ?_
  obtain ⟨j2, hj2, ho2⟩ := Option.bind_eq_some_iff.mp hm
  clear hm
  have hJ2 : aj_J Γ 1 (0, 0) 18 [] [aI j2] w := by
    clear hj2
    have hm := ho2
    clear ho2
    obtain rfl := Option.some.inj hm
    exact j_iret G E d_R_fileNumber_18 ⟨by decide, by decide⟩ ⟨rfl, rfl⟩
  clear ho2
  have hm := hj2
  clear hj2
  refine j_ifnonnull (tgt := 11) G d_R_fileNumber_4 rfl (fun hc => ?_) (fun hc => ?_)
  · rw [if_neg hc] at hm
    refine j_aload_n G d_R_fileNumber_11 rfl ?_
    obtain ⟨v3, hv3, hm⟩ := Option.bind_eq_some_iff.mp hm
    refine j_gR G d_R_fileNumber_12 fl_R_33 hv3 ?_
    obtain ⟨v4, hv4, hm⟩ := Option.bind_eq_some_iff.mp hm
    obtain ⟨v5, hv5, hm⟩ := Option.bind_eq_some_iff.mp hm
    refine j_callV (As := []) G d_R_fileNumber_15 (c_F_number _ G.off _ _ _ _ _ _ hv5) mw_F_number mi_F_number lk_R_37 rfl hv4 rfl rfl (Nat.le_of_ble_eq_true rfl) ⟨by decide, by decide⟩ ⟨by decide, by decide⟩ (fun v9 w9 hp => ?_)
    obtain ⟨rfl, rfl⟩ := hp
    obtain rfl := Option.some.inj hm
    refine j_lv [] rfl ?_
    exact hJ2
  · rw [if_pos hc] at hm
    refine j_iconst (v := 0) G d_R_fileNumber_7 (by decide) ?_
    refine j_goto (tgt := 18) G d_R_fileNumber_8 rfl ?_
    obtain rfl := Option.some.inj hm
    refine j_lv [] rfl ?_
    exact hJ2
noncomputable def f_F_losePower (w : aw_W) (o : Option Nat) (p1 : Int32) : Option (aw_W) :=
  (aw_gR w o 6 0).bind fun v1 =>
  (aw_gI w o 6 5).bind fun v2 =>
  (aw_obj w v1 3).bind fun v3 =>
  (f_O_cutTo w v1 (v2 + p1)).bind fun v4 =>
  (aw_obj v4 o 6).bind fun v5 =>
  (f_F_syncAll v4 o).bind fun v6 =>
  some v6
abbrev rm_F_losePower : Room := { frames := 2, cells := 0, slots := 0, locals := 40 }
set_option maxRecDepth 100000 in
set_option maxHeartbeats 4000000 in
theorem c_F_losePower (l : Launch) (hl : l.stackTraces = false) (D : va_G) (dA : Nat → ClassId) (base : Nat) (w : aw_W) (o : Option Nat) (p1 : Int32) (r : aw_W) (hm : f_F_losePower w o p1 = some r) : aj_Ct l D dA base m_F_losePower rm_F_losePower [aRf o, aI p1] w (fun v w' => none = v ∧ r = w') := by
  refine aj_enter hl (by decide) (Nat.le_of_ble_eq_true rfl) ?_
  intro Γ G E
  unfold f_F_losePower at hm
  refine j_aload_n G d_F_losePower_0 rfl ?_
  obtain ⟨v1, hv1, hm⟩ := Option.bind_eq_some_iff.mp hm
  refine j_gR G d_F_losePower_1 fl_F_14 hv1 ?_
  refine j_aload_n G d_F_losePower_4 rfl ?_
  obtain ⟨v2, hv2, hm⟩ := Option.bind_eq_some_iff.mp hm
  refine j_gI G d_F_losePower_5 fl_F_40 hv2 ?_
  refine j_iload_n G d_F_losePower_8 rfl ?_
  refine j_iadd G d_F_losePower_9 ?_
  obtain ⟨v3, hv3, hm⟩ := Option.bind_eq_some_iff.mp hm
  obtain ⟨v4, hv4, hm⟩ := Option.bind_eq_some_iff.mp hm
  refine j_callV (As := [aI (v2 + p1)]) G d_F_losePower_10 (c_O_cutTo _ G.off _ _ _ _ _ _ _ hv4) mw_O_cutTo mi_O_cutTo lk_F_30 rfl hv3 rfl rfl (Nat.le_of_ble_eq_true rfl) ⟨by decide, by decide⟩ ⟨by decide, by decide⟩ (fun v9 w9 hp => ?_)
  obtain ⟨rfl, rfl⟩ := hp
  refine j_aload_n G d_F_losePower_13 rfl ?_
  obtain ⟨v5, hv5, hm⟩ := Option.bind_eq_some_iff.mp hm
  obtain ⟨v6, hv6, hm⟩ := Option.bind_eq_some_iff.mp hm
  refine j_callV (As := []) G d_F_losePower_14 (c_F_syncAll _ G.off _ _ _ _ _ _ hv6) mw_F_syncAll mi_F_syncAll lk_F_47 rfl hv5 rfl rfl (Nat.le_of_ble_eq_true rfl) ⟨by decide, by decide⟩ ⟨by decide, by decide⟩ (fun v9 w9 hp => ?_)
  obtain ⟨rfl, rfl⟩ := hp
  obtain rfl := Option.some.inj hm
  exact j_vret G E d_F_losePower_17 ⟨by decide, by decide⟩ ⟨rfl, rfl⟩
noncomputable def f_D_clear (w : aw_W) (o : Option Nat) : Option (aw_W) :=
  (aw_pV w o 1 1 (.int (0 : Int32))).bind fun v1 =>
  some v1
abbrev rm_D_clear : Room := { frames := 0, cells := 0, slots := 0, locals := 0 }
set_option maxRecDepth 100000 in
set_option maxHeartbeats 4000000 in
theorem c_D_clear (l : Launch) (hl : l.stackTraces = false) (D : va_G) (dA : Nat → ClassId) (base : Nat) (w : aw_W) (o : Option Nat) (r : aw_W) (hm : f_D_clear w o = some r) : aj_Ct l D dA base m_D_clear rm_D_clear [aRf o] w (fun v w' => none = v ∧ r = w') := by
  refine aj_enter hl (by decide) (Nat.le_of_ble_eq_true rfl) ?_
  intro Γ G E
  unfold f_D_clear at hm
  refine j_aload_n G d_D_clear_0 rfl ?_
  refine j_iconst (v := 0) G d_D_clear_1 (by decide) ?_
  obtain ⟨v1, hv1, hm⟩ := Option.bind_eq_some_iff.mp hm
  refine j_pV (ty := aY_D 1) G d_D_clear_2 fl_D_19 ac_D (aw_T_of_D 1 (by decide) rfl) rfl rfl hv1 ?_
  obtain rfl := Option.some.inj hm
  exact j_vret G E d_D_clear_5 ⟨by decide, by decide⟩ ⟨rfl, rfl⟩
noncomputable def f_F_learnFromHint (w : aw_W) (o : Option Nat) : Option (Int32 × aw_W) :=
  (aw_gR w o 6 1).bind fun v1 =>
  (aw_obj w v1 3).bind fun v2 =>
  (f_O_size w v1).bind fun v3 =>
  if (v3 - (4 : Int32)) < 0 then
    some ((0 : Int32), w)
  else
    (aw_gR w o 6 1).bind fun v4 =>
    (aw_obj w v4 3).bind fun v5 =>
    (f_O_number w v4 (v3 - (4 : Int32)) (4 : Int32)).bind fun v6 =>
    (aw_gR w o 6 1).bind fun v7 =>
    (aw_obj w v7 3).bind fun v8 =>
    (f_O_sum w v7 (0 : Int32) (v3 - (4 : Int32))).bind fun v9 =>
    if (lg_cmp v6 v9) = 0 then
      (aw_pV w o 6 3 (.int (0 : Int32))).bind fun v10 =>
      (aw_wh (σ := Int32 × Int32 × Int32 × aw_W) (τ := (Int32 × Int32 × Int32 × aw_W) ⊕ (Int32 × aw_W)) (fun s11 =>
        if (11 : Int32) ≤ s11.2.2.1 then
          some (.inr (.inl (s11.1, s11.2.1, s11.2.2.1, s11.2.2.2)))
        else
          if (v3 - (4 : Int32)) ≤ s11.2.1 then
            some (.inr (.inl (s11.1, s11.2.1, s11.2.2.1, s11.2.2.2)))
          else
            (aw_gR s11.2.2.2 o 6 1).bind fun v12 =>
            (aw_obj s11.2.2.2 v12 3).bind fun v13 =>
            (f_O_at s11.2.2.2 v12 (s11.2.1 + (2 : Int32))).bind fun v14 =>
            (aw_gR s11.2.2.2 o 6 1).bind fun v15 =>
            (aw_obj s11.2.2.2 v15 3).bind fun v16 =>
            (f_O_at s11.2.2.2 v15 (s11.2.1 + (3 : Int32))).bind fun v17 =>
            (f_Y_isKeySize s11.2.2.2 v14).bind fun v18 =>
            if v18 = 0 then
              some (.inr (.inr ((0 : Int32), s11.2.2.2)))
            else
              (f_Y_isValueSize s11.2.2.2 v17).bind fun v19 =>
              if v19 = 0 then
                some (.inr (.inr ((0 : Int32), s11.2.2.2)))
              else
                (aw_gR s11.2.2.2 o 6 1).bind fun v20 =>
                (aw_obj s11.2.2.2 v20 3).bind fun v21 =>
                (f_O_at s11.2.2.2 v20 (s11.2.1 + (4 : Int32))).bind fun v22 =>
                if v22 = s11.1 then
                  (aw_gR s11.2.2.2 o 6 1).bind fun v23 =>
                  (aw_obj s11.2.2.2 v23 3).bind fun v24 =>
                  (f_O_number s11.2.2.2 v23 (s11.2.1 + (5 : Int32)) v14).bind fun v25 =>
                  (f_K_rank s11.2.2.2 v25 v14).bind fun v26 =>
                  (aw_obj s11.2.2.2 o 6).bind fun v27 =>
                  (f_F_note s11.2.2.2 o s11.1 v26 v17 none).bind fun v28 =>
                  (f_Y_recordBytes v28.2 v14 v17).bind fun v29 =>
                  some (.inl (s11.1 + v29, s11.2.1 + ((5 : Int32) + v14), s11.2.2.1 + 1, v28.2))
                else
                  some (.inr (.inr ((0 : Int32), s11.2.2.2)))) ((0 : Int32), (0 : Int32), (0 : Int32), v10)).bind fun e30 =>
      match e30 with
      | .inl s31 =>
        (if s31.2.1 = (v3 - (4 : Int32)) then
            (aw_gR s31.2.2.2 o 6 0).bind fun v33 =>
            (aw_obj s31.2.2.2 v33 3).bind fun v34 =>
            (f_O_size s31.2.2.2 v33).bind fun v35 =>
            if s31.1 = v35 then
              some (1 : Int32)
            else
              some (0 : Int32)
          else
            some (0 : Int32) : Option (Int32)).bind fun j36 =>
        (aw_zz j36).bind fun v37 =>
        some (j36, s31.2.2.2)
      | .inr r32 => some r32
    else
      some ((0 : Int32), w)
abbrev rm_F_learnFromHint : Room := { frames := 2, cells := 0, slots := 0, locals := 46 }
set_option maxRecDepth 100000 in
set_option maxHeartbeats 4000000 in
theorem c_F_learnFromHint (l : Launch) (hl : l.stackTraces = false) (D : va_G) (dA : Nat → ClassId) (base : Nat) (w : aw_W) (o : Option Nat) (r : Int32 × aw_W) (hm : f_F_learnFromHint w o = some r) : aj_Ct l D dA base m_F_learnFromHint rm_F_learnFromHint [aRf o] w (fun v w' => some (aI r.1) = v ∧ r.2 = w') := by
  refine aj_enter hl (by decide) (Nat.le_of_ble_eq_true rfl) ?_
  intro Γ G E
  unfold f_F_learnFromHint at hm
  refine j_aload_n G d_F_learnFromHint_0 rfl ?_
  obtain ⟨v1, hv1, hm⟩ := Option.bind_eq_some_iff.mp hm
  refine j_gR G d_F_learnFromHint_1 fl_F_20 hv1 ?_
  obtain ⟨v2, hv2, hm⟩ := Option.bind_eq_some_iff.mp hm
  obtain ⟨v3, hv3, hm⟩ := Option.bind_eq_some_iff.mp hm
  refine j_callV (As := []) G d_F_learnFromHint_4 (c_O_size _ G.off _ _ _ _ _ _ hv3) mw_O_size mi_O_size lk_F_43 rfl hv2 rfl rfl (Nat.le_of_ble_eq_true rfl) ⟨by decide, by decide⟩ ⟨by decide, by decide⟩ (fun v9 w9 hp => ?_)
  obtain ⟨rfl, rfl⟩ := hp
  refine j_iconst (v := 4) G d_F_learnFromHint_7 (by decide) ?_
  refine j_isub G d_F_learnFromHint_8 ?_
  refine j_istore_n G d_F_learnFromHint_9 (by decide) ?_
  refine j_iload_n G d_F_learnFromHint_10 rfl ?_
  refine j_if_lt (tgt := 36) G d_F_learnFromHint_11 rfl (fun hc => ?_) (fun hc => ?_)
  · rw [if_pos hc] at hm
    refine j_iconst (v := 0) G d_F_learnFromHint_36 (by decide) ?_
    obtain rfl := Option.some.inj hm
    exact j_zret G E d_F_learnFromHint_37 ⟨by decide, by decide⟩ (by decide) ⟨rfl, rfl⟩
  · rw [if_neg hc] at hm
    refine j_aload_n G d_F_learnFromHint_14 rfl ?_
    obtain ⟨v4, hv4, hm⟩ := Option.bind_eq_some_iff.mp hm
    refine j_gR G d_F_learnFromHint_15 fl_F_20 hv4 ?_
    refine j_iload_n G d_F_learnFromHint_18 rfl ?_
    refine j_iconst (v := 4) G d_F_learnFromHint_19 (by decide) ?_
    obtain ⟨v5, hv5, hm⟩ := Option.bind_eq_some_iff.mp hm
    obtain ⟨v6, hv6, hm⟩ := Option.bind_eq_some_iff.mp hm
    refine j_callV (As := [aI (v3 - (4 : Int32)), aI (4 : Int32)]) G d_F_learnFromHint_20 (c_O_number _ G.off _ _ _ _ _ _ _ _ hv6) mw_O_number mi_O_number lk_F_99 rfl hv5 rfl rfl (Nat.le_of_ble_eq_true rfl) ⟨by decide, by decide⟩ ⟨by decide, by decide⟩ (fun v9 w9 hp => ?_)
    obtain ⟨rfl, rfl⟩ := hp
    refine j_aload_n G d_F_learnFromHint_23 rfl ?_
    obtain ⟨v7, hv7, hm⟩ := Option.bind_eq_some_iff.mp hm
    refine j_gR G d_F_learnFromHint_24 fl_F_20 hv7 ?_
    refine j_iconst (v := 0) G d_F_learnFromHint_27 (by decide) ?_
    refine j_iload_n G d_F_learnFromHint_28 rfl ?_
    obtain ⟨v8, hv8, hm⟩ := Option.bind_eq_some_iff.mp hm
    obtain ⟨v9, hv9, hm⟩ := Option.bind_eq_some_iff.mp hm
    refine j_callV (As := [aI (0 : Int32), aI (v3 - (4 : Int32))]) G d_F_learnFromHint_29 (c_O_sum _ G.off _ _ _ _ _ _ _ _ hv9) mw_O_sum mi_O_sum lk_F_76 rfl hv8 rfl rfl (Nat.le_of_ble_eq_true rfl) ⟨by decide, by decide⟩ ⟨by decide, by decide⟩ (fun v9 w9 hp => ?_)
    obtain ⟨rfl, rfl⟩ := hp
    refine j_lcmp G d_F_learnFromHint_32 ?_
    refine j_if_eq (tgt := 38) G d_F_learnFromHint_33 rfl (fun hc => ?_) (fun hc => ?_)
    · rw [if_pos hc] at hm
      refine j_aload_n G d_F_learnFromHint_38 rfl ?_
      refine j_iconst (v := 0) G d_F_learnFromHint_39 (by decide) ?_
      obtain ⟨v10, hv10, hm⟩ := Option.bind_eq_some_iff.mp hm
      refine j_pV (ty := aY_F 3) G d_F_learnFromHint_40 fl_F_33 ac_F (aw_T_of_F 3 (by decide) rfl) rfl rfl hv10 ?_
      refine j_iconst (v := 0) G d_F_learnFromHint_43 (by decide) ?_
      refine j_istore_n G d_F_learnFromHint_44 (by decide) ?_
      refine j_iconst (v := 0) G d_F_learnFromHint_45 (by decide) ?_
      refine j_istore_n G d_F_learnFromHint_46 (by decide) ?_
      refine j_iconst (v := 0) G d_F_learnFromHint_47 (by decide) ?_
      refine j_istore G d_F_learnFromHint_48 (by decide) ?_
      obtain ⟨e11, he11, ho11⟩ := Option.bind_eq_some_iff.mp hm
      clear hm
      refine j_lv [(0, aRf o), (1, aI (v3 - (4 : Int32))), (2, aI (0 : Int32)), (3, aI (0 : Int32)), (4, aI (0 : Int32))] rfl ?_
      refine aw_wh_elim (fun (s : Int32 × Int32 × Int32 × aw_W) => aj_J Γ 9 (0, 0) 50 [(0, aRf o), (1, aI (v3 - (4 : Int32))), (2, aI s.1), (3, aI s.2.1), (4, aI s.2.2.1)] [] s.2.2.2) ?_ he11
      intro s11 x11 hm hin11 hout11
      try dsimp only at hm ⊢
      refine j_iload G d_F_learnFromHint_50 rfl ?_
      refine j_bipush (v := 11) G d_F_learnFromHint_52 (by decide) ?_
      refine j_icmp_ge (tgt := 171) G d_F_learnFromHint_54 rfl (fun hc => ?_) (fun hc => ?_)
      · rw [if_pos hc] at hm
        have q11 := hout11 _ (Option.some.inj hm).symm
        clear hin11 hout11
        subst q11
        clear hm
        have hm := ho11
        clear ho11
        try dsimp only at hm
        refine j_iload_n G d_F_learnFromHint_171 rfl ?_
        refine j_iload_n G d_F_learnFromHint_172 rfl ?_
        obtain ⟨j12, hj12, ho12⟩ := Option.bind_eq_some_iff.mp hm
        clear hm
        have hJ12 : aj_J Γ 9 (0, 0) 192 [] [aI j12] s11.2.2.2 := by
          clear hj12
          have hm := ho12
          clear ho12
          obtain ⟨v13, hv13, hm⟩ := Option.bind_eq_some_iff.mp hm
          obtain rfl := Option.some.inj hm
          exact j_zret G E d_F_learnFromHint_192 ⟨by decide, by decide⟩ (aw_zz_some hv13) ⟨rfl, rfl⟩
        clear ho12
        have hm := hj12
        clear hj12
        refine j_icmp_ne (tgt := 191) G d_F_learnFromHint_173 rfl (fun hc => ?_) (fun hc => ?_)
        · rw [if_neg hc] at hm
          refine j_iconst (v := 0) G d_F_learnFromHint_191 (by decide) ?_
          obtain rfl := Option.some.inj hm
          refine j_lv [] rfl ?_
          exact hJ12
        · rw [if_pos hc] at hm
          refine j_iload_n G d_F_learnFromHint_176 rfl ?_
          refine j_aload_n G d_F_learnFromHint_177 rfl ?_
          obtain ⟨v14, hv14, hm⟩ := Option.bind_eq_some_iff.mp hm
          refine j_gR G d_F_learnFromHint_178 fl_F_14 hv14 ?_
          obtain ⟨v15, hv15, hm⟩ := Option.bind_eq_some_iff.mp hm
          obtain ⟨v16, hv16, hm⟩ := Option.bind_eq_some_iff.mp hm
          refine j_callV (As := []) G d_F_learnFromHint_181 (c_O_size _ G.off _ _ _ _ _ _ hv16) mw_O_size mi_O_size lk_F_43 rfl hv15 rfl rfl (Nat.le_of_ble_eq_true rfl) ⟨by decide, by decide⟩ ⟨by decide, by decide⟩ (fun v9 w9 hp => ?_)
          obtain ⟨rfl, rfl⟩ := hp
          refine j_icmp_ne (tgt := 191) G d_F_learnFromHint_184 rfl (fun hc => ?_) (fun hc => ?_)
          · rw [if_neg hc] at hm
            refine j_iconst (v := 0) G d_F_learnFromHint_191 (by decide) ?_
            obtain rfl := Option.some.inj hm
            refine j_lv [] rfl ?_
            exact hJ12
          · rw [if_pos hc] at hm
            refine j_iconst (v := 1) G d_F_learnFromHint_187 (by decide) ?_
            refine j_goto (tgt := 192) G d_F_learnFromHint_188 rfl ?_
            obtain rfl := Option.some.inj hm
            refine j_lv [] rfl ?_
            exact hJ12
      · rw [if_neg hc] at hm
        refine j_iload_n G d_F_learnFromHint_57 rfl ?_
        refine j_iload_n G d_F_learnFromHint_58 rfl ?_
        refine j_icmp_ge (tgt := 171) G d_F_learnFromHint_59 rfl (fun hc => ?_) (fun hc => ?_)
        · rw [if_pos hc] at hm
          have q11 := hout11 _ (Option.some.inj hm).symm
          clear hin11 hout11
          subst q11
          clear hm
          have hm := ho11
          clear ho11
          try dsimp only at hm
          refine j_iload_n G d_F_learnFromHint_171 rfl ?_
          refine j_iload_n G d_F_learnFromHint_172 rfl ?_
          obtain ⟨j17, hj17, ho17⟩ := Option.bind_eq_some_iff.mp hm
          clear hm
          have hJ17 : aj_J Γ 9 (0, 0) 192 [] [aI j17] s11.2.2.2 := by
            clear hj17
            have hm := ho17
            clear ho17
            obtain ⟨v18, hv18, hm⟩ := Option.bind_eq_some_iff.mp hm
            obtain rfl := Option.some.inj hm
            exact j_zret G E d_F_learnFromHint_192 ⟨by decide, by decide⟩ (aw_zz_some hv18) ⟨rfl, rfl⟩
          clear ho17
          have hm := hj17
          clear hj17
          refine j_icmp_ne (tgt := 191) G d_F_learnFromHint_173 rfl (fun hc => ?_) (fun hc => ?_)
          · rw [if_neg hc] at hm
            refine j_iconst (v := 0) G d_F_learnFromHint_191 (by decide) ?_
            obtain rfl := Option.some.inj hm
            refine j_lv [] rfl ?_
            exact hJ17
          · rw [if_pos hc] at hm
            refine j_iload_n G d_F_learnFromHint_176 rfl ?_
            refine j_aload_n G d_F_learnFromHint_177 rfl ?_
            obtain ⟨v19, hv19, hm⟩ := Option.bind_eq_some_iff.mp hm
            refine j_gR G d_F_learnFromHint_178 fl_F_14 hv19 ?_
            obtain ⟨v20, hv20, hm⟩ := Option.bind_eq_some_iff.mp hm
            obtain ⟨v21, hv21, hm⟩ := Option.bind_eq_some_iff.mp hm
            refine j_callV (As := []) G d_F_learnFromHint_181 (c_O_size _ G.off _ _ _ _ _ _ hv21) mw_O_size mi_O_size lk_F_43 rfl hv20 rfl rfl (Nat.le_of_ble_eq_true rfl) ⟨by decide, by decide⟩ ⟨by decide, by decide⟩ (fun v9 w9 hp => ?_)
            obtain ⟨rfl, rfl⟩ := hp
            refine j_icmp_ne (tgt := 191) G d_F_learnFromHint_184 rfl (fun hc => ?_) (fun hc => ?_)
            · rw [if_neg hc] at hm
              refine j_iconst (v := 0) G d_F_learnFromHint_191 (by decide) ?_
              obtain rfl := Option.some.inj hm
              refine j_lv [] rfl ?_
              exact hJ17
            · rw [if_pos hc] at hm
              refine j_iconst (v := 1) G d_F_learnFromHint_187 (by decide) ?_
              refine j_goto (tgt := 192) G d_F_learnFromHint_188 rfl ?_
              obtain rfl := Option.some.inj hm
              refine j_lv [] rfl ?_
              exact hJ17
        · rw [if_neg hc] at hm
          refine j_aload_n G d_F_learnFromHint_62 rfl ?_
          obtain ⟨v22, hv22, hm⟩ := Option.bind_eq_some_iff.mp hm
          refine j_gR G d_F_learnFromHint_63 fl_F_20 hv22 ?_
          refine j_iload_n G d_F_learnFromHint_66 rfl ?_
          refine j_iconst (v := 2) G d_F_learnFromHint_67 (by decide) ?_
          refine j_iadd G d_F_learnFromHint_68 ?_
          obtain ⟨v23, hv23, hm⟩ := Option.bind_eq_some_iff.mp hm
          obtain ⟨v24, hv24, hm⟩ := Option.bind_eq_some_iff.mp hm
          refine j_callV (As := [aI (s11.2.1 + (2 : Int32))]) G d_F_learnFromHint_69 (c_O_at _ G.off _ _ _ _ _ _ _ hv24) mw_O_at mi_O_at lk_F_118 rfl hv23 rfl rfl (Nat.le_of_ble_eq_true rfl) ⟨by decide, by decide⟩ ⟨by decide, by decide⟩ (fun v9 w9 hp => ?_)
          obtain ⟨rfl, rfl⟩ := hp
          refine j_istore G d_F_learnFromHint_72 (by decide) ?_
          refine j_aload_n G d_F_learnFromHint_74 rfl ?_
          obtain ⟨v25, hv25, hm⟩ := Option.bind_eq_some_iff.mp hm
          refine j_gR G d_F_learnFromHint_75 fl_F_20 hv25 ?_
          refine j_iload_n G d_F_learnFromHint_78 rfl ?_
          refine j_iconst (v := 3) G d_F_learnFromHint_79 (by decide) ?_
          refine j_iadd G d_F_learnFromHint_80 ?_
          obtain ⟨v26, hv26, hm⟩ := Option.bind_eq_some_iff.mp hm
          obtain ⟨v27, hv27, hm⟩ := Option.bind_eq_some_iff.mp hm
          refine j_callV (As := [aI (s11.2.1 + (3 : Int32))]) G d_F_learnFromHint_81 (c_O_at _ G.off _ _ _ _ _ _ _ hv27) mw_O_at mi_O_at lk_F_118 rfl hv26 rfl rfl (Nat.le_of_ble_eq_true rfl) ⟨by decide, by decide⟩ ⟨by decide, by decide⟩ (fun v9 w9 hp => ?_)
          obtain ⟨rfl, rfl⟩ := hp
          refine j_istore G d_F_learnFromHint_84 (by decide) ?_
          refine j_iload G d_F_learnFromHint_86 rfl ?_
          obtain ⟨v28, hv28, hm⟩ := Option.bind_eq_some_iff.mp hm
          refine j_callS (As := [aI v24]) G d_F_learnFromHint_88 (c_Y_isKeySize _ G.off _ _ _ _ _ _ hv28) mw_Y_isKeySize ms_Y_isKeySize lk_F_121 rfl rfl (Nat.le_of_ble_eq_true rfl) ⟨by decide, by decide⟩ ⟨by decide, by decide⟩ (fun v9 w9 hp => ?_)
          obtain ⟨rfl, rfl⟩ := hp
          refine j_if_eq (tgt := 116) G d_F_learnFromHint_91 rfl (fun hc => ?_) (fun hc => ?_)
          · rw [if_pos hc] at hm
            refine j_iconst (v := 0) G d_F_learnFromHint_116 (by decide) ?_
            have q11 := hout11 _ (Option.some.inj hm).symm
            clear hin11 hout11
            subst q11
            clear hm
            have hm := ho11
            clear ho11
            try dsimp only at hm
            obtain rfl := Option.some.inj hm
            exact j_zret G E d_F_learnFromHint_117 ⟨by decide, by decide⟩ (by decide) ⟨rfl, rfl⟩
          · rw [if_neg hc] at hm
            refine j_iload G d_F_learnFromHint_94 rfl ?_
            obtain ⟨v29, hv29, hm⟩ := Option.bind_eq_some_iff.mp hm
            refine j_callS (As := [aI v27]) G d_F_learnFromHint_96 (c_Y_isValueSize _ G.off _ _ _ _ _ _ hv29) mw_Y_isValueSize ms_Y_isValueSize lk_F_125 rfl rfl (Nat.le_of_ble_eq_true rfl) ⟨by decide, by decide⟩ ⟨by decide, by decide⟩ (fun v9 w9 hp => ?_)
            obtain ⟨rfl, rfl⟩ := hp
            refine j_if_eq (tgt := 116) G d_F_learnFromHint_99 rfl (fun hc => ?_) (fun hc => ?_)
            · rw [if_pos hc] at hm
              refine j_iconst (v := 0) G d_F_learnFromHint_116 (by decide) ?_
              have q11 := hout11 _ (Option.some.inj hm).symm
              clear hin11 hout11
              subst q11
              clear hm
              have hm := ho11
              clear ho11
              try dsimp only at hm
              obtain rfl := Option.some.inj hm
              exact j_zret G E d_F_learnFromHint_117 ⟨by decide, by decide⟩ (by decide) ⟨rfl, rfl⟩
            · rw [if_neg hc] at hm
              refine j_aload_n G d_F_learnFromHint_102 rfl ?_
              obtain ⟨v30, hv30, hm⟩ := Option.bind_eq_some_iff.mp hm
              refine j_gR G d_F_learnFromHint_103 fl_F_20 hv30 ?_
              refine j_iload_n G d_F_learnFromHint_106 rfl ?_
              refine j_iconst (v := 4) G d_F_learnFromHint_107 (by decide) ?_
              refine j_iadd G d_F_learnFromHint_108 ?_
              obtain ⟨v31, hv31, hm⟩ := Option.bind_eq_some_iff.mp hm
              obtain ⟨v32, hv32, hm⟩ := Option.bind_eq_some_iff.mp hm
              refine j_callV (As := [aI (s11.2.1 + (4 : Int32))]) G d_F_learnFromHint_109 (c_O_at _ G.off _ _ _ _ _ _ _ hv32) mw_O_at mi_O_at lk_F_118 rfl hv31 rfl rfl (Nat.le_of_ble_eq_true rfl) ⟨by decide, by decide⟩ ⟨by decide, by decide⟩ (fun v9 w9 hp => ?_)
              obtain ⟨rfl, rfl⟩ := hp
              refine j_iload_n G d_F_learnFromHint_112 rfl ?_
              refine j_icmp_eq (tgt := 118) G d_F_learnFromHint_113 rfl (fun hc => ?_) (fun hc => ?_)
              · rw [if_pos hc] at hm
                refine j_aload_n G d_F_learnFromHint_118 rfl ?_
                obtain ⟨v33, hv33, hm⟩ := Option.bind_eq_some_iff.mp hm
                refine j_gR G d_F_learnFromHint_119 fl_F_20 hv33 ?_
                refine j_iload_n G d_F_learnFromHint_122 rfl ?_
                refine j_iconst (v := 5) G d_F_learnFromHint_123 (by decide) ?_
                refine j_iadd G d_F_learnFromHint_124 ?_
                refine j_iload G d_F_learnFromHint_125 rfl ?_
                obtain ⟨v34, hv34, hm⟩ := Option.bind_eq_some_iff.mp hm
                obtain ⟨v35, hv35, hm⟩ := Option.bind_eq_some_iff.mp hm
                refine j_callV (As := [aI (s11.2.1 + (5 : Int32)), aI v24]) G d_F_learnFromHint_127 (c_O_number _ G.off _ _ _ _ _ _ _ _ hv35) mw_O_number mi_O_number lk_F_99 rfl hv34 rfl rfl (Nat.le_of_ble_eq_true rfl) ⟨by decide, by decide⟩ ⟨by decide, by decide⟩ (fun v9 w9 hp => ?_)
                obtain ⟨rfl, rfl⟩ := hp
                refine j_iload G d_F_learnFromHint_130 rfl ?_
                obtain ⟨v36, hv36, hm⟩ := Option.bind_eq_some_iff.mp hm
                refine j_callS (As := [aL v35, aI v24]) G d_F_learnFromHint_132 (c_K_rank _ G.off _ _ _ _ _ _ _ hv36) mw_K_rank ms_K_rank lk_F_128 rfl rfl (Nat.le_of_ble_eq_true rfl) ⟨by decide, by decide⟩ ⟨by decide, by decide⟩ (fun v9 w9 hp => ?_)
                obtain ⟨rfl, rfl⟩ := hp
                refine j_lstore G d_F_learnFromHint_135 (by decide) ?_
                refine j_aload_n G d_F_learnFromHint_137 rfl ?_
                refine j_iload_n G d_F_learnFromHint_138 rfl ?_
                refine j_lload G d_F_learnFromHint_139 rfl ?_
                refine j_iload G d_F_learnFromHint_141 rfl ?_
                refine j_null G d_F_learnFromHint_143 ?_
                obtain ⟨v37, hv37, hm⟩ := Option.bind_eq_some_iff.mp hm
                obtain ⟨v38, hv38, hm⟩ := Option.bind_eq_some_iff.mp hm
                refine j_callV (As := [aI s11.1, aL v36, aI v27, aRf none]) G d_F_learnFromHint_144 (c_F_note _ G.off _ _ _ _ _ _ _ _ _ _ hv38) mw_F_note mi_F_note lk_F_84 rfl hv37 rfl rfl (Nat.le_of_ble_eq_true rfl) ⟨by decide, by decide⟩ ⟨by decide, by decide⟩ (fun v9 w9 hp => ?_)
                obtain ⟨rfl, rfl⟩ := hp
                refine j_pop G d_F_learnFromHint_147 rfl ?_
                refine j_iload_n G d_F_learnFromHint_148 rfl ?_
                refine j_iload G d_F_learnFromHint_149 rfl ?_
                refine j_iload G d_F_learnFromHint_151 rfl ?_
                obtain ⟨v39, hv39, hm⟩ := Option.bind_eq_some_iff.mp hm
                refine j_callS (As := [aI v24, aI v27]) G d_F_learnFromHint_153 (c_Y_recordBytes _ G.off _ _ _ _ _ _ _ hv39) mw_Y_recordBytes ms_Y_recordBytes lk_F_131 rfl rfl (Nat.le_of_ble_eq_true rfl) ⟨by decide, by decide⟩ ⟨by decide, by decide⟩ (fun v9 w9 hp => ?_)
                obtain ⟨rfl, rfl⟩ := hp
                refine j_iadd G d_F_learnFromHint_156 ?_
                refine j_istore_n G d_F_learnFromHint_157 (by decide) ?_
                refine j_iload_n G d_F_learnFromHint_158 rfl ?_
                refine j_iconst (v := 5) G d_F_learnFromHint_159 (by decide) ?_
                refine j_iload G d_F_learnFromHint_160 rfl ?_
                refine j_iadd G d_F_learnFromHint_162 ?_
                refine j_iadd G d_F_learnFromHint_163 ?_
                refine j_istore_n G d_F_learnFromHint_164 (by decide) ?_
                refine j_iinc (v := s11.2.2.1 + 1) G d_F_learnFromHint_165 rfl (by first | rfl | decide) (by decide) ?_
                refine j_goto (tgt := 50) G d_F_learnFromHint_168 rfl ?_
                refine j_lv [(0, aRf o), (1, aI (v3 - (4 : Int32))), (2, aI (s11.1 + v39)), (3, aI (s11.2.1 + ((5 : Int32) + v24))), (4, aI (s11.2.2.1 + 1))] rfl ?_
                have z9 := hin11 _ (Option.some.inj hm).symm
                exact z9
              · rw [if_neg hc] at hm
                refine j_iconst (v := 0) G d_F_learnFromHint_116 (by decide) ?_
                have q11 := hout11 _ (Option.some.inj hm).symm
                clear hin11 hout11
                subst q11
                clear hm
                have hm := ho11
                clear ho11
                try dsimp only at hm
                obtain rfl := Option.some.inj hm
                exact j_zret G E d_F_learnFromHint_117 ⟨by decide, by decide⟩ (by decide) ⟨rfl, rfl⟩
    · rw [if_neg hc] at hm
      refine j_iconst (v := 0) G d_F_learnFromHint_36 (by decide) ?_
      obtain rfl := Option.some.inj hm
      exact j_zret G E d_F_learnFromHint_37 ⟨by decide, by decide⟩ (by decide) ⟨rfl, rfl⟩
noncomputable def f_F_soundSize (w : aw_W) (o : Option Nat) (p1 : Int32) : Option (Int32) :=
  (aw_gR w o 6 0).bind fun v1 =>
  (aw_obj w v1 3).bind fun v2 =>
  (f_O_size w v1).bind fun v3 =>
  if (p1 + (8 : Int32)) ≤ v3 then
    (aw_gR w o 6 0).bind fun v4 =>
    (aw_obj w v4 3).bind fun v5 =>
    (f_O_at w v4 (p1 + (6 : Int32))).bind fun v6 =>
    (aw_gR w o 6 0).bind fun v7 =>
    (aw_obj w v7 3).bind fun v8 =>
    (f_O_at w v7 (p1 + (7 : Int32))).bind fun v9 =>
    (if v9 = (255 : Int32) then
        some (1 : Int32)
      else
        some (0 : Int32) : Option (Int32)).bind fun j10 =>
    (f_Y_isKeySize w v6).bind fun v11 =>
    if v11 = 0 then
      some (0 : Int32)
    else
      if j10 = 0 then
        (f_Y_isValueSize w v9).bind fun v12 =>
        if v12 = 0 then
          some (0 : Int32)
        else
          (f_Y_recordBytes w v6 v9).bind fun v13 =>
          (aw_gR w o 6 0).bind fun v14 =>
          (aw_obj w v14 3).bind fun v15 =>
          (f_O_size w v14).bind fun v16 =>
          (if v16 < (p1 + v13) then
              some (0 : Int32)
            else
              (aw_obj w o 6).bind fun v17 =>
              (f_F_hasRightSum w o p1 v13).bind fun v18 =>
              if v18 = 0 then
                some (0 : Int32)
              else
                some v13 : Option (Int32)).bind fun j19 =>
          some j19
      else
        (f_Y_recordBytes w v6 v9).bind fun v20 =>
        (aw_gR w o 6 0).bind fun v21 =>
        (aw_obj w v21 3).bind fun v22 =>
        (f_O_size w v21).bind fun v23 =>
        (if v23 < (p1 + v20) then
            some (0 : Int32)
          else
            (aw_obj w o 6).bind fun v24 =>
            (f_F_hasRightSum w o p1 v20).bind fun v25 =>
            if v25 = 0 then
              some (0 : Int32)
            else
              some v20 : Option (Int32)).bind fun j26 =>
        some j26
  else
    some (0 : Int32)
abbrev rm_F_soundSize : Room := { frames := 3, cells := 0, slots := 0, locals := 68 }
set_option maxRecDepth 100000 in
set_option maxHeartbeats 4000000 in
theorem c_F_soundSize (l : Launch) (hl : l.stackTraces = false) (D : va_G) (dA : Nat → ClassId) (base : Nat) (w : aw_W) (o : Option Nat) (p1 : Int32) (r : Int32) (hm : f_F_soundSize w o p1 = some r) : aj_Ct l D dA base m_F_soundSize rm_F_soundSize [aRf o, aI p1] w (fun v w' => some (aI r) = v ∧ w = w') := by
  refine aj_enter hl (by decide) (Nat.le_of_ble_eq_true rfl) ?_
  intro Γ G E
  unfold f_F_soundSize at hm
  refine j_iload_n G d_F_soundSize_0 rfl ?_
  refine j_bipush (v := 8) G d_F_soundSize_1 (by decide) ?_
  refine j_iadd G d_F_soundSize_3 ?_
  refine j_aload_n G d_F_soundSize_4 rfl ?_
  obtain ⟨v1, hv1, hm⟩ := Option.bind_eq_some_iff.mp hm
  refine j_gR G d_F_soundSize_5 fl_F_14 hv1 ?_
  obtain ⟨v2, hv2, hm⟩ := Option.bind_eq_some_iff.mp hm
  obtain ⟨v3, hv3, hm⟩ := Option.bind_eq_some_iff.mp hm
  refine j_callV (As := []) G d_F_soundSize_8 (c_O_size _ G.off _ _ _ _ _ _ hv3) mw_O_size mi_O_size lk_F_43 rfl hv2 rfl rfl (Nat.le_of_ble_eq_true rfl) ⟨by decide, by decide⟩ ⟨by decide, by decide⟩ (fun v9 w9 hp => ?_)
  obtain ⟨rfl, rfl⟩ := hp
  refine j_icmp_le (tgt := 16) G d_F_soundSize_11 rfl (fun hc => ?_) (fun hc => ?_)
  · rw [if_pos hc] at hm
    refine j_aload_n G d_F_soundSize_16 rfl ?_
    obtain ⟨v4, hv4, hm⟩ := Option.bind_eq_some_iff.mp hm
    refine j_gR G d_F_soundSize_17 fl_F_14 hv4 ?_
    refine j_iload_n G d_F_soundSize_20 rfl ?_
    refine j_bipush (v := 6) G d_F_soundSize_21 (by decide) ?_
    refine j_iadd G d_F_soundSize_23 ?_
    obtain ⟨v5, hv5, hm⟩ := Option.bind_eq_some_iff.mp hm
    obtain ⟨v6, hv6, hm⟩ := Option.bind_eq_some_iff.mp hm
    refine j_callV (As := [aI (p1 + (6 : Int32))]) G d_F_soundSize_24 (c_O_at _ G.off _ _ _ _ _ _ _ hv6) mw_O_at mi_O_at lk_F_118 rfl hv5 rfl rfl (Nat.le_of_ble_eq_true rfl) ⟨by decide, by decide⟩ ⟨by decide, by decide⟩ (fun v9 w9 hp => ?_)
    obtain ⟨rfl, rfl⟩ := hp
    refine j_istore_n G d_F_soundSize_27 (by decide) ?_
    refine j_aload_n G d_F_soundSize_28 rfl ?_
    obtain ⟨v7, hv7, hm⟩ := Option.bind_eq_some_iff.mp hm
    refine j_gR G d_F_soundSize_29 fl_F_14 hv7 ?_
    refine j_iload_n G d_F_soundSize_32 rfl ?_
    refine j_bipush (v := 7) G d_F_soundSize_33 (by decide) ?_
    refine j_iadd G d_F_soundSize_35 ?_
    obtain ⟨v8, hv8, hm⟩ := Option.bind_eq_some_iff.mp hm
    obtain ⟨v9, hv9, hm⟩ := Option.bind_eq_some_iff.mp hm
    refine j_callV (As := [aI (p1 + (7 : Int32))]) G d_F_soundSize_36 (c_O_at _ G.off _ _ _ _ _ _ _ hv9) mw_O_at mi_O_at lk_F_118 rfl hv8 rfl rfl (Nat.le_of_ble_eq_true rfl) ⟨by decide, by decide⟩ ⟨by decide, by decide⟩ (fun v9 w9 hp => ?_)
    obtain ⟨rfl, rfl⟩ := hp
    refine j_istore_n G d_F_soundSize_39 (by decide) ?_
    refine j_iload_n G d_F_soundSize_40 rfl ?_
    refine j_sipush (v := 255) G d_F_soundSize_41 (by decide) ?_
    obtain ⟨j10, hj10, ho10⟩ := Option.bind_eq_some_iff.mp hm
    clear hm
    have hJ10 : aj_J Γ 6 (0, 0) 52 [(0, aRf o), (1, aI p1), (2, aI v6), (3, aI v9)] [aI j10] w := by
      clear hj10
      have hm := ho10
      clear ho10
      refine j_istore G d_F_soundSize_52 (by decide) ?_
      refine j_iload_n G d_F_soundSize_54 rfl ?_
      obtain ⟨v11, hv11, hm⟩ := Option.bind_eq_some_iff.mp hm
      refine j_callS (As := [aI v6]) G d_F_soundSize_55 (c_Y_isKeySize _ G.off _ _ _ _ _ _ hv11) mw_Y_isKeySize ms_Y_isKeySize lk_F_121 rfl rfl (Nat.le_of_ble_eq_true rfl) ⟨by decide, by decide⟩ ⟨by decide, by decide⟩ (fun v9 w9 hp => ?_)
      obtain ⟨rfl, rfl⟩ := hp
      refine j_if_eq (tgt := 73) G d_F_soundSize_58 rfl (fun hc => ?_) (fun hc => ?_)
      · rw [if_pos hc] at hm
        refine j_iconst (v := 0) G d_F_soundSize_73 (by decide) ?_
        obtain rfl := Option.some.inj hm
        exact j_iret G E d_F_soundSize_74 ⟨by decide, by decide⟩ ⟨rfl, rfl⟩
      · rw [if_neg hc] at hm
        refine j_iload G d_F_soundSize_61 rfl ?_
        refine j_if_ne (tgt := 75) G d_F_soundSize_63 rfl (fun hc => ?_) (fun hc => ?_)
        · rw [if_neg hc] at hm
          refine j_iload_n G d_F_soundSize_75 rfl ?_
          refine j_iload_n G d_F_soundSize_76 rfl ?_
          obtain ⟨v12, hv12, hm⟩ := Option.bind_eq_some_iff.mp hm
          refine j_callS (As := [aI v6, aI v9]) G d_F_soundSize_77 (c_Y_recordBytes _ G.off _ _ _ _ _ _ _ hv12) mw_Y_recordBytes ms_Y_recordBytes lk_F_131 rfl rfl (Nat.le_of_ble_eq_true rfl) ⟨by decide, by decide⟩ ⟨by decide, by decide⟩ (fun v9 w9 hp => ?_)
          obtain ⟨rfl, rfl⟩ := hp
          refine j_istore G d_F_soundSize_80 (by decide) ?_
          refine j_iload_n G d_F_soundSize_82 rfl ?_
          refine j_iload G d_F_soundSize_83 rfl ?_
          refine j_iadd G d_F_soundSize_85 ?_
          refine j_aload_n G d_F_soundSize_86 rfl ?_
          obtain ⟨v13, hv13, hm⟩ := Option.bind_eq_some_iff.mp hm
          refine j_gR G d_F_soundSize_87 fl_F_14 hv13 ?_
          obtain ⟨v14, hv14, hm⟩ := Option.bind_eq_some_iff.mp hm
          obtain ⟨v15, hv15, hm⟩ := Option.bind_eq_some_iff.mp hm
          refine j_callV (As := []) G d_F_soundSize_90 (c_O_size _ G.off _ _ _ _ _ _ hv15) mw_O_size mi_O_size lk_F_43 rfl hv14 rfl rfl (Nat.le_of_ble_eq_true rfl) ⟨by decide, by decide⟩ ⟨by decide, by decide⟩ (fun v9 w9 hp => ?_)
          obtain ⟨rfl, rfl⟩ := hp
          obtain ⟨j16, hj16, ho16⟩ := Option.bind_eq_some_iff.mp hm
          clear hm
          have hJ16 : aj_J Γ 6 (0, 0) 112 [] [aI j16] w := by
            clear hj16
            have hm := ho16
            clear ho16
            obtain rfl := Option.some.inj hm
            exact j_iret G E d_F_soundSize_112 ⟨by decide, by decide⟩ ⟨rfl, rfl⟩
          clear ho16
          have hm := hj16
          clear hj16
          refine j_icmp_gt (tgt := 111) G d_F_soundSize_93 rfl (fun hc => ?_) (fun hc => ?_)
          · rw [if_pos hc] at hm
            refine j_iconst (v := 0) G d_F_soundSize_111 (by decide) ?_
            obtain rfl := Option.some.inj hm
            refine j_lv [] rfl ?_
            exact hJ16
          · rw [if_neg hc] at hm
            refine j_aload_n G d_F_soundSize_96 rfl ?_
            refine j_iload_n G d_F_soundSize_97 rfl ?_
            refine j_iload G d_F_soundSize_98 rfl ?_
            obtain ⟨v17, hv17, hm⟩ := Option.bind_eq_some_iff.mp hm
            obtain ⟨v18, hv18, hm⟩ := Option.bind_eq_some_iff.mp hm
            refine j_callV (As := [aI p1, aI v12]) G d_F_soundSize_100 (c_F_hasRightSum _ G.off _ _ _ _ _ _ _ _ hv18) mw_F_hasRightSum mi_F_hasRightSum lk_F_138 rfl hv17 rfl rfl (Nat.le_of_ble_eq_true rfl) ⟨by decide, by decide⟩ ⟨by decide, by decide⟩ (fun v9 w9 hp => ?_)
            obtain ⟨rfl, rfl⟩ := hp
            refine j_if_eq (tgt := 111) G d_F_soundSize_103 rfl (fun hc => ?_) (fun hc => ?_)
            · rw [if_pos hc] at hm
              refine j_iconst (v := 0) G d_F_soundSize_111 (by decide) ?_
              obtain rfl := Option.some.inj hm
              refine j_lv [] rfl ?_
              exact hJ16
            · rw [if_neg hc] at hm
              refine j_iload G d_F_soundSize_106 rfl ?_
              refine j_goto (tgt := 112) G d_F_soundSize_108 rfl ?_
              obtain rfl := Option.some.inj hm
              refine j_lv [] rfl ?_
              exact hJ16
        · rw [if_pos hc] at hm
          refine j_iload_n G d_F_soundSize_66 rfl ?_
          obtain ⟨v19, hv19, hm⟩ := Option.bind_eq_some_iff.mp hm
          refine j_callS (As := [aI v9]) G d_F_soundSize_67 (c_Y_isValueSize _ G.off _ _ _ _ _ _ hv19) mw_Y_isValueSize ms_Y_isValueSize lk_F_125 rfl rfl (Nat.le_of_ble_eq_true rfl) ⟨by decide, by decide⟩ ⟨by decide, by decide⟩ (fun v9 w9 hp => ?_)
          obtain ⟨rfl, rfl⟩ := hp
          refine j_if_ne (tgt := 75) G d_F_soundSize_70 rfl (fun hc => ?_) (fun hc => ?_)
          · rw [if_neg hc] at hm
            refine j_iload_n G d_F_soundSize_75 rfl ?_
            refine j_iload_n G d_F_soundSize_76 rfl ?_
            obtain ⟨v20, hv20, hm⟩ := Option.bind_eq_some_iff.mp hm
            refine j_callS (As := [aI v6, aI v9]) G d_F_soundSize_77 (c_Y_recordBytes _ G.off _ _ _ _ _ _ _ hv20) mw_Y_recordBytes ms_Y_recordBytes lk_F_131 rfl rfl (Nat.le_of_ble_eq_true rfl) ⟨by decide, by decide⟩ ⟨by decide, by decide⟩ (fun v9 w9 hp => ?_)
            obtain ⟨rfl, rfl⟩ := hp
            refine j_istore G d_F_soundSize_80 (by decide) ?_
            refine j_iload_n G d_F_soundSize_82 rfl ?_
            refine j_iload G d_F_soundSize_83 rfl ?_
            refine j_iadd G d_F_soundSize_85 ?_
            refine j_aload_n G d_F_soundSize_86 rfl ?_
            obtain ⟨v21, hv21, hm⟩ := Option.bind_eq_some_iff.mp hm
            refine j_gR G d_F_soundSize_87 fl_F_14 hv21 ?_
            obtain ⟨v22, hv22, hm⟩ := Option.bind_eq_some_iff.mp hm
            obtain ⟨v23, hv23, hm⟩ := Option.bind_eq_some_iff.mp hm
            refine j_callV (As := []) G d_F_soundSize_90 (c_O_size _ G.off _ _ _ _ _ _ hv23) mw_O_size mi_O_size lk_F_43 rfl hv22 rfl rfl (Nat.le_of_ble_eq_true rfl) ⟨by decide, by decide⟩ ⟨by decide, by decide⟩ (fun v9 w9 hp => ?_)
            obtain ⟨rfl, rfl⟩ := hp
            obtain ⟨j24, hj24, ho24⟩ := Option.bind_eq_some_iff.mp hm
            clear hm
            have hJ24 : aj_J Γ 6 (0, 0) 112 [] [aI j24] w := by
              clear hj24
              have hm := ho24
              clear ho24
              obtain rfl := Option.some.inj hm
              exact j_iret G E d_F_soundSize_112 ⟨by decide, by decide⟩ ⟨rfl, rfl⟩
            clear ho24
            have hm := hj24
            clear hj24
            refine j_icmp_gt (tgt := 111) G d_F_soundSize_93 rfl (fun hc => ?_) (fun hc => ?_)
            · rw [if_pos hc] at hm
              refine j_iconst (v := 0) G d_F_soundSize_111 (by decide) ?_
              obtain rfl := Option.some.inj hm
              refine j_lv [] rfl ?_
              exact hJ24
            · rw [if_neg hc] at hm
              refine j_aload_n G d_F_soundSize_96 rfl ?_
              refine j_iload_n G d_F_soundSize_97 rfl ?_
              refine j_iload G d_F_soundSize_98 rfl ?_
              obtain ⟨v25, hv25, hm⟩ := Option.bind_eq_some_iff.mp hm
              obtain ⟨v26, hv26, hm⟩ := Option.bind_eq_some_iff.mp hm
              refine j_callV (As := [aI p1, aI v20]) G d_F_soundSize_100 (c_F_hasRightSum _ G.off _ _ _ _ _ _ _ _ hv26) mw_F_hasRightSum mi_F_hasRightSum lk_F_138 rfl hv25 rfl rfl (Nat.le_of_ble_eq_true rfl) ⟨by decide, by decide⟩ ⟨by decide, by decide⟩ (fun v9 w9 hp => ?_)
              obtain ⟨rfl, rfl⟩ := hp
              refine j_if_eq (tgt := 111) G d_F_soundSize_103 rfl (fun hc => ?_) (fun hc => ?_)
              · rw [if_pos hc] at hm
                refine j_iconst (v := 0) G d_F_soundSize_111 (by decide) ?_
                obtain rfl := Option.some.inj hm
                refine j_lv [] rfl ?_
                exact hJ24
              · rw [if_neg hc] at hm
                refine j_iload G d_F_soundSize_106 rfl ?_
                refine j_goto (tgt := 112) G d_F_soundSize_108 rfl ?_
                obtain rfl := Option.some.inj hm
                refine j_lv [] rfl ?_
                exact hJ24
          · rw [if_pos hc] at hm
            refine j_iconst (v := 0) G d_F_soundSize_73 (by decide) ?_
            obtain rfl := Option.some.inj hm
            exact j_iret G E d_F_soundSize_74 ⟨by decide, by decide⟩ ⟨rfl, rfl⟩
    clear ho10
    have hm := hj10
    clear hj10
    refine j_icmp_ne (tgt := 51) G d_F_soundSize_44 rfl (fun hc => ?_) (fun hc => ?_)
    · rw [if_neg hc] at hm
      refine j_iconst (v := 0) G d_F_soundSize_51 (by decide) ?_
      obtain rfl := Option.some.inj hm
      refine j_lv [(0, aRf o), (1, aI p1), (2, aI v6), (3, aI v9)] rfl ?_
      exact hJ10
    · rw [if_pos hc] at hm
      refine j_iconst (v := 1) G d_F_soundSize_47 (by decide) ?_
      refine j_goto (tgt := 52) G d_F_soundSize_48 rfl ?_
      obtain rfl := Option.some.inj hm
      refine j_lv [(0, aRf o), (1, aI p1), (2, aI v6), (3, aI v9)] rfl ?_
      exact hJ10
  · rw [if_neg hc] at hm
    refine j_iconst (v := 0) G d_F_soundSize_14 (by decide) ?_
    obtain rfl := Option.some.inj hm
    exact j_iret G E d_F_soundSize_15 ⟨by decide, by decide⟩ ⟨rfl, rfl⟩
noncomputable def f_F_learnFromBytes (w : aw_W) (o : Option Nat) : Option (aw_W) :=
  (aw_pV w o 6 3 (.int (0 : Int32))).bind fun v1 =>
  (aw_wh (σ := Int32 × Int32 × aw_W) (τ := Int32 × Int32 × aw_W) (fun s2 =>
    if (11 : Int32) ≤ s2.2.1 then
      some (.inr (s2.1, s2.2.1, s2.2.2))
    else
      (aw_obj s2.2.2 o 6).bind fun v3 =>
      (f_F_soundSize s2.2.2 o s2.1).bind fun v4 =>
      if v4 = 0 then
        some (.inr (s2.1, s2.2.1, s2.2.2))
      else
        (aw_gR s2.2.2 o 6 0).bind fun v5 =>
        (aw_obj s2.2.2 v5 3).bind fun v6 =>
        (f_O_at s2.2.2 v5 (s2.1 + (6 : Int32))).bind fun v7 =>
        (aw_gR s2.2.2 o 6 0).bind fun v8 =>
        (aw_obj s2.2.2 v8 3).bind fun v9 =>
        (f_O_number s2.2.2 v8 (s2.1 + (8 : Int32)) v7).bind fun v10 =>
        (f_K_rank s2.2.2 v10 v7).bind fun v11 =>
        (aw_gR s2.2.2 o 6 0).bind fun v12 =>
        (aw_obj s2.2.2 v12 3).bind fun v13 =>
        (f_O_at s2.2.2 v12 (s2.1 + (7 : Int32))).bind fun v14 =>
        (aw_obj s2.2.2 o 6).bind fun v15 =>
        (f_F_note s2.2.2 o s2.1 v11 v14 none).bind fun v16 =>
        some (.inl (s2.1 + v4, s2.2.1 + 1, v16.2))) ((0 : Int32), (0 : Int32), v1)).bind fun e17 =>
  (aw_gR e17.2.2 o 6 0).bind fun v18 =>
  (aw_obj e17.2.2 v18 3).bind fun v19 =>
  (f_O_cutTo e17.2.2 v18 e17.1).bind fun v20 =>
  some v20
abbrev rm_F_learnFromBytes : Room := { frames := 4, cells := 0, slots := 0, locals := 93 }
set_option maxRecDepth 100000 in
set_option maxHeartbeats 4000000 in
theorem c_F_learnFromBytes (l : Launch) (hl : l.stackTraces = false) (D : va_G) (dA : Nat → ClassId) (base : Nat) (w : aw_W) (o : Option Nat) (r : aw_W) (hm : f_F_learnFromBytes w o = some r) : aj_Ct l D dA base m_F_learnFromBytes rm_F_learnFromBytes [aRf o] w (fun v w' => none = v ∧ r = w') := by
  refine aj_enter hl (by decide) (Nat.le_of_ble_eq_true rfl) ?_
  intro Γ G E
  unfold f_F_learnFromBytes at hm
  refine j_aload_n G d_F_learnFromBytes_0 rfl ?_
  refine j_iconst (v := 0) G d_F_learnFromBytes_1 (by decide) ?_
  obtain ⟨v1, hv1, hm⟩ := Option.bind_eq_some_iff.mp hm
  refine j_pV (ty := aY_F 3) G d_F_learnFromBytes_2 fl_F_33 ac_F (aw_T_of_F 3 (by decide) rfl) rfl rfl hv1 ?_
  refine j_iconst (v := 0) G d_F_learnFromBytes_5 (by decide) ?_
  refine j_istore_n G d_F_learnFromBytes_6 (by decide) ?_
  refine j_iconst (v := 0) G d_F_learnFromBytes_7 (by decide) ?_
  refine j_istore_n G d_F_learnFromBytes_8 (by decide) ?_
  obtain ⟨e2, he2, ho2⟩ := Option.bind_eq_some_iff.mp hm
  clear hm
  refine j_lv [(0, aRf o), (1, aI (0 : Int32)), (2, aI (0 : Int32))] rfl ?_
  refine aw_wh_elim (fun (s : Int32 × Int32 × aw_W) => aj_J Γ 7 (0, 0) 9 [(0, aRf o), (1, aI s.1), (2, aI s.2.1)] [] s.2.2) ?_ he2
  intro s2 x2 hm hin2 hout2
  try dsimp only at hm ⊢
  refine j_iload_n G d_F_learnFromBytes_9 rfl ?_
  refine j_bipush (v := 11) G d_F_learnFromBytes_10 (by decide) ?_
  refine j_icmp_ge (tgt := 91) G d_F_learnFromBytes_12 rfl (fun hc => ?_) (fun hc => ?_)
  · rw [if_pos hc] at hm
    have q2 := hout2 _ (Option.some.inj hm).symm
    clear hin2 hout2
    subst q2
    clear hm
    have hm := ho2
    clear ho2
    try dsimp only at hm
    refine j_aload_n G d_F_learnFromBytes_91 rfl ?_
    obtain ⟨v3, hv3, hm⟩ := Option.bind_eq_some_iff.mp hm
    refine j_gR G d_F_learnFromBytes_92 fl_F_14 hv3 ?_
    refine j_iload_n G d_F_learnFromBytes_95 rfl ?_
    obtain ⟨v4, hv4, hm⟩ := Option.bind_eq_some_iff.mp hm
    obtain ⟨v5, hv5, hm⟩ := Option.bind_eq_some_iff.mp hm
    refine j_callV (As := [aI s2.1]) G d_F_learnFromBytes_96 (c_O_cutTo _ G.off _ _ _ _ _ _ _ hv5) mw_O_cutTo mi_O_cutTo lk_F_30 rfl hv4 rfl rfl (Nat.le_of_ble_eq_true rfl) ⟨by decide, by decide⟩ ⟨by decide, by decide⟩ (fun v9 w9 hp => ?_)
    obtain ⟨rfl, rfl⟩ := hp
    obtain rfl := Option.some.inj hm
    exact j_vret G E d_F_learnFromBytes_99 ⟨by decide, by decide⟩ ⟨rfl, rfl⟩
  · rw [if_neg hc] at hm
    refine j_aload_n G d_F_learnFromBytes_15 rfl ?_
    refine j_iload_n G d_F_learnFromBytes_16 rfl ?_
    obtain ⟨v6, hv6, hm⟩ := Option.bind_eq_some_iff.mp hm
    obtain ⟨v7, hv7, hm⟩ := Option.bind_eq_some_iff.mp hm
    refine j_callV (As := [aI s2.1]) G d_F_learnFromBytes_17 (c_F_soundSize _ G.off _ _ _ _ _ _ _ hv7) mw_F_soundSize mi_F_soundSize lk_F_135 rfl hv6 rfl rfl (Nat.le_of_ble_eq_true rfl) ⟨by decide, by decide⟩ ⟨by decide, by decide⟩ (fun v9 w9 hp => ?_)
    obtain ⟨rfl, rfl⟩ := hp
    refine j_istore_n G d_F_learnFromBytes_20 (by decide) ?_
    refine j_iload_n G d_F_learnFromBytes_21 rfl ?_
    refine j_if_ne (tgt := 28) G d_F_learnFromBytes_22 rfl (fun hc => ?_) (fun hc => ?_)
    · rw [if_neg hc] at hm
      refine j_aload_n G d_F_learnFromBytes_28 rfl ?_
      obtain ⟨v8, hv8, hm⟩ := Option.bind_eq_some_iff.mp hm
      refine j_gR G d_F_learnFromBytes_29 fl_F_14 hv8 ?_
      refine j_iload_n G d_F_learnFromBytes_32 rfl ?_
      refine j_bipush (v := 6) G d_F_learnFromBytes_33 (by decide) ?_
      refine j_iadd G d_F_learnFromBytes_35 ?_
      obtain ⟨v9, hv9, hm⟩ := Option.bind_eq_some_iff.mp hm
      obtain ⟨v10, hv10, hm⟩ := Option.bind_eq_some_iff.mp hm
      refine j_callV (As := [aI (s2.1 + (6 : Int32))]) G d_F_learnFromBytes_36 (c_O_at _ G.off _ _ _ _ _ _ _ hv10) mw_O_at mi_O_at lk_F_118 rfl hv9 rfl rfl (Nat.le_of_ble_eq_true rfl) ⟨by decide, by decide⟩ ⟨by decide, by decide⟩ (fun v9 w9 hp => ?_)
      obtain ⟨rfl, rfl⟩ := hp
      refine j_istore G d_F_learnFromBytes_39 (by decide) ?_
      refine j_aload_n G d_F_learnFromBytes_41 rfl ?_
      obtain ⟨v11, hv11, hm⟩ := Option.bind_eq_some_iff.mp hm
      refine j_gR G d_F_learnFromBytes_42 fl_F_14 hv11 ?_
      refine j_iload_n G d_F_learnFromBytes_45 rfl ?_
      refine j_bipush (v := 8) G d_F_learnFromBytes_46 (by decide) ?_
      refine j_iadd G d_F_learnFromBytes_48 ?_
      refine j_iload G d_F_learnFromBytes_49 rfl ?_
      obtain ⟨v12, hv12, hm⟩ := Option.bind_eq_some_iff.mp hm
      obtain ⟨v13, hv13, hm⟩ := Option.bind_eq_some_iff.mp hm
      refine j_callV (As := [aI (s2.1 + (8 : Int32)), aI v10]) G d_F_learnFromBytes_51 (c_O_number _ G.off _ _ _ _ _ _ _ _ hv13) mw_O_number mi_O_number lk_F_99 rfl hv12 rfl rfl (Nat.le_of_ble_eq_true rfl) ⟨by decide, by decide⟩ ⟨by decide, by decide⟩ (fun v9 w9 hp => ?_)
      obtain ⟨rfl, rfl⟩ := hp
      refine j_iload G d_F_learnFromBytes_54 rfl ?_
      obtain ⟨v14, hv14, hm⟩ := Option.bind_eq_some_iff.mp hm
      refine j_callS (As := [aL v13, aI v10]) G d_F_learnFromBytes_56 (c_K_rank _ G.off _ _ _ _ _ _ _ hv14) mw_K_rank ms_K_rank lk_F_128 rfl rfl (Nat.le_of_ble_eq_true rfl) ⟨by decide, by decide⟩ ⟨by decide, by decide⟩ (fun v9 w9 hp => ?_)
      obtain ⟨rfl, rfl⟩ := hp
      refine j_lstore G d_F_learnFromBytes_59 (by decide) ?_
      refine j_aload_n G d_F_learnFromBytes_61 rfl ?_
      refine j_iload_n G d_F_learnFromBytes_62 rfl ?_
      refine j_lload G d_F_learnFromBytes_63 rfl ?_
      refine j_aload_n G d_F_learnFromBytes_65 rfl ?_
      obtain ⟨v15, hv15, hm⟩ := Option.bind_eq_some_iff.mp hm
      refine j_gR G d_F_learnFromBytes_66 fl_F_14 hv15 ?_
      refine j_iload_n G d_F_learnFromBytes_69 rfl ?_
      refine j_bipush (v := 7) G d_F_learnFromBytes_70 (by decide) ?_
      refine j_iadd G d_F_learnFromBytes_72 ?_
      obtain ⟨v16, hv16, hm⟩ := Option.bind_eq_some_iff.mp hm
      obtain ⟨v17, hv17, hm⟩ := Option.bind_eq_some_iff.mp hm
      refine j_callV (As := [aI (s2.1 + (7 : Int32))]) G d_F_learnFromBytes_73 (c_O_at _ G.off _ _ _ _ _ _ _ hv17) mw_O_at mi_O_at lk_F_118 rfl hv16 rfl rfl (Nat.le_of_ble_eq_true rfl) ⟨by decide, by decide⟩ ⟨by decide, by decide⟩ (fun v9 w9 hp => ?_)
      obtain ⟨rfl, rfl⟩ := hp
      refine j_null G d_F_learnFromBytes_76 ?_
      obtain ⟨v18, hv18, hm⟩ := Option.bind_eq_some_iff.mp hm
      obtain ⟨v19, hv19, hm⟩ := Option.bind_eq_some_iff.mp hm
      refine j_callV (As := [aI s2.1, aL v14, aI v17, aRf none]) G d_F_learnFromBytes_77 (c_F_note _ G.off _ _ _ _ _ _ _ _ _ _ hv19) mw_F_note mi_F_note lk_F_84 rfl hv18 rfl rfl (Nat.le_of_ble_eq_true rfl) ⟨by decide, by decide⟩ ⟨by decide, by decide⟩ (fun v9 w9 hp => ?_)
      obtain ⟨rfl, rfl⟩ := hp
      refine j_pop G d_F_learnFromBytes_80 rfl ?_
      refine j_iload_n G d_F_learnFromBytes_81 rfl ?_
      refine j_iload_n G d_F_learnFromBytes_82 rfl ?_
      refine j_iadd G d_F_learnFromBytes_83 ?_
      refine j_istore_n G d_F_learnFromBytes_84 (by decide) ?_
      refine j_iinc (v := s2.2.1 + 1) G d_F_learnFromBytes_85 rfl (by first | rfl | decide) (by decide) ?_
      refine j_goto (tgt := 9) G d_F_learnFromBytes_88 rfl ?_
      refine j_lv [(0, aRf o), (1, aI (s2.1 + v7)), (2, aI (s2.2.1 + 1))] rfl ?_
      have z9 := hin2 _ (Option.some.inj hm).symm
      exact z9
    · rw [if_pos hc] at hm
      refine j_goto (tgt := 91) G d_F_learnFromBytes_25 rfl ?_
      have q2 := hout2 _ (Option.some.inj hm).symm
      clear hin2 hout2
      subst q2
      clear hm
      have hm := ho2
      clear ho2
      try dsimp only at hm
      refine j_aload_n G d_F_learnFromBytes_91 rfl ?_
      obtain ⟨v20, hv20, hm⟩ := Option.bind_eq_some_iff.mp hm
      refine j_gR G d_F_learnFromBytes_92 fl_F_14 hv20 ?_
      refine j_iload_n G d_F_learnFromBytes_95 rfl ?_
      obtain ⟨v21, hv21, hm⟩ := Option.bind_eq_some_iff.mp hm
      obtain ⟨v22, hv22, hm⟩ := Option.bind_eq_some_iff.mp hm
      refine j_callV (As := [aI s2.1]) G d_F_learnFromBytes_96 (c_O_cutTo _ G.off _ _ _ _ _ _ _ hv22) mw_O_cutTo mi_O_cutTo lk_F_30 rfl hv21 rfl rfl (Nat.le_of_ble_eq_true rfl) ⟨by decide, by decide⟩ ⟨by decide, by decide⟩ (fun v9 w9 hp => ?_)
      obtain ⟨rfl, rfl⟩ := hp
      obtain rfl := Option.some.inj hm
      exact j_vret G E d_F_learnFromBytes_99 ⟨by decide, by decide⟩ ⟨rfl, rfl⟩
noncomputable def f_F_learn (w : aw_W) (o : Option Nat) (p1 : Int32) : Option (aw_W) :=
  (if p1 = 0 then
      (aw_obj w o 6).bind fun v1 =>
      (f_F_learnFromBytes w o).bind fun v2 =>
      some v2
    else
      (aw_obj w o 6).bind fun v3 =>
      (f_F_learnFromHint w o).bind fun v4 =>
      if v4.1 = 0 then
        (aw_obj v4.2 o 6).bind fun v5 =>
        (f_F_learnFromBytes v4.2 o).bind fun v6 =>
        some v6
      else
        some v4.2 : Option (aw_W)).bind fun j7 =>
  (aw_obj j7 o 6).bind fun v8 =>
  (f_F_syncAll j7 o).bind fun v9 =>
  some v9
abbrev rm_F_learn : Room := { frames := 5, cells := 0, slots := 0, locals := 119 }
set_option maxRecDepth 100000 in
set_option maxHeartbeats 4000000 in
theorem c_F_learn (l : Launch) (hl : l.stackTraces = false) (D : va_G) (dA : Nat → ClassId) (base : Nat) (w : aw_W) (o : Option Nat) (p1 : Int32) (r : aw_W) (hm : f_F_learn w o p1 = some r) : aj_Ct l D dA base m_F_learn rm_F_learn [aRf o, aI p1] w (fun v w' => none = v ∧ r = w') := by
  refine aj_enter hl (by decide) (Nat.le_of_ble_eq_true rfl) ?_
  intro Γ G E
  unfold f_F_learn at hm
  refine j_iload_n G d_F_learn_0 rfl ?_
  obtain ⟨j1, hj1, ho1⟩ := Option.bind_eq_some_iff.mp hm
  clear hm
  have hJ1 : aj_J Γ 2 (0, 0) 15 [(0, aRf o)] [] j1 := by
    clear hj1
    have hm := ho1
    clear ho1
    refine j_aload_n G d_F_learn_15 rfl ?_
    obtain ⟨v2, hv2, hm⟩ := Option.bind_eq_some_iff.mp hm
    obtain ⟨v3, hv3, hm⟩ := Option.bind_eq_some_iff.mp hm
    refine j_callV (As := []) G d_F_learn_16 (c_F_syncAll _ G.off _ _ _ _ _ _ hv3) mw_F_syncAll mi_F_syncAll lk_F_47 rfl hv2 rfl rfl (Nat.le_of_ble_eq_true rfl) ⟨by decide, by decide⟩ ⟨by decide, by decide⟩ (fun v9 w9 hp => ?_)
    obtain ⟨rfl, rfl⟩ := hp
    obtain rfl := Option.some.inj hm
    exact j_vret G E d_F_learn_19 ⟨by decide, by decide⟩ ⟨rfl, rfl⟩
  clear ho1
  have hm := hj1
  clear hj1
  refine j_if_eq (tgt := 11) G d_F_learn_1 rfl (fun hc => ?_) (fun hc => ?_)
  · rw [if_pos hc] at hm
    refine j_aload_n G d_F_learn_11 rfl ?_
    obtain ⟨v4, hv4, hm⟩ := Option.bind_eq_some_iff.mp hm
    obtain ⟨v5, hv5, hm⟩ := Option.bind_eq_some_iff.mp hm
    refine j_callV (As := []) G d_F_learn_12 (c_F_learnFromBytes _ G.off _ _ _ _ _ _ hv5) mw_F_learnFromBytes mi_F_learnFromBytes lk_F_115 rfl hv4 rfl rfl (Nat.le_of_ble_eq_true rfl) ⟨by decide, by decide⟩ ⟨by decide, by decide⟩ (fun v9 w9 hp => ?_)
    obtain ⟨rfl, rfl⟩ := hp
    obtain rfl := Option.some.inj hm
    refine j_lv [(0, aRf o)] rfl ?_
    exact hJ1
  · rw [if_neg hc] at hm
    refine j_aload_n G d_F_learn_4 rfl ?_
    obtain ⟨v6, hv6, hm⟩ := Option.bind_eq_some_iff.mp hm
    obtain ⟨v7, hv7, hm⟩ := Option.bind_eq_some_iff.mp hm
    refine j_callV (As := []) G d_F_learn_5 (c_F_learnFromHint _ G.off _ _ _ _ _ _ hv7) mw_F_learnFromHint mi_F_learnFromHint lk_F_111 rfl hv6 rfl rfl (Nat.le_of_ble_eq_true rfl) ⟨by decide, by decide⟩ ⟨by decide, by decide⟩ (fun v9 w9 hp => ?_)
    obtain ⟨rfl, rfl⟩ := hp
    refine j_if_ne (tgt := 15) G d_F_learn_8 rfl (fun hc => ?_) (fun hc => ?_)
    · rw [if_neg hc] at hm
      obtain rfl := Option.some.inj hm
      refine j_lv [(0, aRf o)] rfl ?_
      exact hJ1
    · rw [if_pos hc] at hm
      refine j_aload_n G d_F_learn_11 rfl ?_
      obtain ⟨v8, hv8, hm⟩ := Option.bind_eq_some_iff.mp hm
      obtain ⟨v9, hv9, hm⟩ := Option.bind_eq_some_iff.mp hm
      refine j_callV (As := []) G d_F_learn_12 (c_F_learnFromBytes _ G.off _ _ _ _ _ _ hv9) mw_F_learnFromBytes mi_F_learnFromBytes lk_F_115 rfl hv8 rfl rfl (Nat.le_of_ble_eq_true rfl) ⟨by decide, by decide⟩ ⟨by decide, by decide⟩ (fun v9 w9 hp => ?_)
      obtain ⟨rfl, rfl⟩ := hp
      obtain rfl := Option.some.inj hm
      refine j_lv [(0, aRf o)] rfl ?_
      exact hJ1
noncomputable def f_F_recordCount (w : aw_W) (o : Option Nat) : Option (Int32) :=
  (aw_gI w o 6 3).bind fun v1 =>
  some v1
abbrev rm_F_recordCount : Room := { frames := 0, cells := 0, slots := 0, locals := 0 }
set_option maxRecDepth 100000 in
set_option maxHeartbeats 4000000 in
theorem c_F_recordCount (l : Launch) (hl : l.stackTraces = false) (D : va_G) (dA : Nat → ClassId) (base : Nat) (w : aw_W) (o : Option Nat) (r : Int32) (hm : f_F_recordCount w o = some r) : aj_Ct l D dA base m_F_recordCount rm_F_recordCount [aRf o] w (fun v w' => some (aI r) = v ∧ w = w') := by
  refine aj_enter hl (by decide) (Nat.le_of_ble_eq_true rfl) ?_
  intro Γ G E
  unfold f_F_recordCount at hm
  refine j_aload_n G d_F_recordCount_0 rfl ?_
  obtain ⟨v1, hv1, hm⟩ := Option.bind_eq_some_iff.mp hm
  refine j_gI G d_F_recordCount_1 fl_F_33 hv1 ?_
  obtain rfl := Option.some.inj hm
  exact j_iret G E d_F_recordCount_4 ⟨by decide, by decide⟩ ⟨rfl, rfl⟩
noncomputable def f_F_record (w : aw_W) (o : Option Nat) (p1 : Int32) : Option (Option Nat) :=
  (if p1 < 0 then
      some none
    else
      (aw_gI w o 6 3).bind fun v1 =>
      if v1 ≤ p1 then
        some none
      else
        (aw_gR w o 6 2).bind fun v2 =>
        (aw_aR w v2 4 p1).bind fun v3 =>
        some v3 : Option (Option Nat)).bind fun j4 =>
  some j4
abbrev rm_F_record : Room := { frames := 0, cells := 0, slots := 0, locals := 0 }
set_option maxRecDepth 100000 in
set_option maxHeartbeats 4000000 in
theorem c_F_record (l : Launch) (hl : l.stackTraces = false) (D : va_G) (dA : Nat → ClassId) (base : Nat) (w : aw_W) (o : Option Nat) (p1 : Int32) (r : Option Nat) (hm : f_F_record w o p1 = some r) : aj_Ct l D dA base m_F_record rm_F_record [aRf o, aI p1] w (fun v w' => some (aRf r) = v ∧ w = w') := by
  refine aj_enter hl (by decide) (Nat.le_of_ble_eq_true rfl) ?_
  intro Γ G E
  unfold f_F_record at hm
  refine j_iload_n G d_F_record_0 rfl ?_
  obtain ⟨j1, hj1, ho1⟩ := Option.bind_eq_some_iff.mp hm
  clear hm
  have hJ1 : aj_J Γ 2 (0, 0) 22 [] [aRf j1] w := by
    clear hj1
    have hm := ho1
    clear ho1
    obtain rfl := Option.some.inj hm
    exact j_aret G E d_F_record_22 ⟨by decide, by decide⟩ ⟨rfl, rfl⟩
  clear ho1
  have hm := hj1
  clear hj1
  refine j_if_lt (tgt := 21) G d_F_record_1 rfl (fun hc => ?_) (fun hc => ?_)
  · rw [if_pos hc] at hm
    refine j_null G d_F_record_21 ?_
    obtain rfl := Option.some.inj hm
    refine j_lv [] rfl ?_
    exact hJ1
  · rw [if_neg hc] at hm
    refine j_iload_n G d_F_record_4 rfl ?_
    refine j_aload_n G d_F_record_5 rfl ?_
    obtain ⟨v2, hv2, hm⟩ := Option.bind_eq_some_iff.mp hm
    refine j_gI G d_F_record_6 fl_F_33 hv2 ?_
    refine j_icmp_ge (tgt := 21) G d_F_record_9 rfl (fun hc => ?_) (fun hc => ?_)
    · rw [if_pos hc] at hm
      refine j_null G d_F_record_21 ?_
      obtain rfl := Option.some.inj hm
      refine j_lv [] rfl ?_
      exact hJ1
    · rw [if_neg hc] at hm
      refine j_aload_n G d_F_record_12 rfl ?_
      obtain ⟨v3, hv3, hm⟩ := Option.bind_eq_some_iff.mp hm
      refine j_gR G d_F_record_13 fl_F_25 hv3 ?_
      refine j_iload_n G d_F_record_16 rfl ?_
      obtain ⟨v4, hv4, hm⟩ := Option.bind_eq_some_iff.mp hm
      refine j_aald (C := "AppendStore$Rec") G d_F_record_17 rfl hv4 ?_
      refine j_goto (tgt := 22) G d_F_record_18 rfl ?_
      obtain rfl := Option.some.inj hm
      refine j_lv [] rfl ?_
      exact hJ1
noncomputable def f_D_has (w : aw_W) (o : Option Nat) (p1 : Option Nat) : Option (Int32) :=
  (aw_gL w p1 4 2).bind fun v1 =>
  (aw_obj w o 1).bind fun v2 =>
  (f_D_find w o v1).bind fun v3 =>
  (if v3 = p1 then
      some (1 : Int32)
    else
      some (0 : Int32) : Option (Int32)).bind fun j4 =>
  (aw_zz j4).bind fun v5 =>
  some j4
abbrev rm_D_has : Room := { frames := 2, cells := 0, slots := 0, locals := 46 }
set_option maxRecDepth 100000 in
set_option maxHeartbeats 4000000 in
theorem c_D_has (l : Launch) (hl : l.stackTraces = false) (D : va_G) (dA : Nat → ClassId) (base : Nat) (w : aw_W) (o : Option Nat) (p1 : Option Nat) (r : Int32) (hm : f_D_has w o p1 = some r) : aj_Ct l D dA base m_D_has rm_D_has [aRf o, aRf p1] w (fun v w' => some (aI r) = v ∧ w = w') := by
  refine aj_enter hl (by decide) (Nat.le_of_ble_eq_true rfl) ?_
  intro Γ G E
  unfold f_D_has at hm
  refine j_aload_n G d_D_has_0 rfl ?_
  refine j_aload_n G d_D_has_1 rfl ?_
  obtain ⟨v1, hv1, hm⟩ := Option.bind_eq_some_iff.mp hm
  refine j_gL G d_D_has_2 fl_D_31 hv1 ?_
  obtain ⟨v2, hv2, hm⟩ := Option.bind_eq_some_iff.mp hm
  obtain ⟨v3, hv3, hm⟩ := Option.bind_eq_some_iff.mp hm
  refine j_callV (As := [aL v1]) G d_D_has_5 (c_D_find _ G.off _ _ _ _ _ _ _ hv3) mw_D_find mi_D_find lk_D_35 rfl hv2 rfl rfl (Nat.le_of_ble_eq_true rfl) ⟨by decide, by decide⟩ ⟨by decide, by decide⟩ (fun v9 w9 hp => ?_)
  obtain ⟨rfl, rfl⟩ := hp
  refine j_aload_n G d_D_has_8 rfl ?_
  obtain ⟨j4, hj4, ho4⟩ := Option.bind_eq_some_iff.mp hm
  clear hm
  have hJ4 : aj_J Γ 2 (0, 0) 17 [] [aI j4] w := by
    clear hj4
    have hm := ho4
    clear ho4
    obtain ⟨v5, hv5, hm⟩ := Option.bind_eq_some_iff.mp hm
    obtain rfl := Option.some.inj hm
    exact j_zret G E d_D_has_17 ⟨by decide, by decide⟩ (aw_zz_some hv5) ⟨rfl, rfl⟩
  clear ho4
  have hm := hj4
  clear hj4
  refine j_acmp_ne (tgt := 16) G d_D_has_9 rfl (fun hc => ?_) (fun hc => ?_)
  · rw [if_neg hc] at hm
    refine j_iconst (v := 0) G d_D_has_16 (by decide) ?_
    obtain rfl := Option.some.inj hm
    refine j_lv [] rfl ?_
    exact hJ4
  · rw [if_pos hc] at hm
    refine j_iconst (v := 1) G d_D_has_12 (by decide) ?_
    refine j_goto (tgt := 17) G d_D_has_13 rfl ?_
    obtain rfl := Option.some.inj hm
    refine j_lv [] rfl ?_
    exact hJ4
noncomputable def f_R_addBytesTo (w : aw_W) (o : Option Nat) (p1 : Option Nat) : Option (aw_W) :=
  (aw_gR w o 4 0).bind fun v1 =>
  (if v1 = none then
      some w
    else
      (aw_gR w o 4 0).bind fun v2 =>
      (aw_obj w v2 6).bind fun v3 =>
      (f_F_bytes w v2).bind fun v4 =>
      (aw_gI w o 4 1).bind fun v5 =>
      (aw_obj w o 4).bind fun v6 =>
      (f_R_size w o).bind fun v7 =>
      (aw_obj w p1 3).bind fun v8 =>
      (f_O_addFrom w p1 v4 v5 v7).bind fun v9 =>
      some v9 : Option (aw_W)).bind fun j10 =>
  some j10
abbrev rm_R_addBytesTo : Room := { frames := 3, cells := 0, slots := 0, locals := 61 }
set_option maxRecDepth 100000 in
set_option maxHeartbeats 4000000 in
theorem c_R_addBytesTo (l : Launch) (hl : l.stackTraces = false) (D : va_G) (dA : Nat → ClassId) (base : Nat) (w : aw_W) (o : Option Nat) (p1 : Option Nat) (r : aw_W) (hm : f_R_addBytesTo w o p1 = some r) : aj_Ct l D dA base m_R_addBytesTo rm_R_addBytesTo [aRf o, aRf p1] w (fun v w' => none = v ∧ r = w') := by
  refine aj_enter hl (by decide) (Nat.le_of_ble_eq_true rfl) ?_
  intro Γ G E
  unfold f_R_addBytesTo at hm
  refine j_aload_n G d_R_addBytesTo_0 rfl ?_
  obtain ⟨v1, hv1, hm⟩ := Option.bind_eq_some_iff.mp hm
  refine j_gR G d_R_addBytesTo_1 fl_R_33 hv1 ?_
  obtain ⟨j2, hj2, ho2⟩ := Option.bind_eq_some_iff.mp hm
  clear hm
  have hJ2 : aj_J Γ 2 (0, 0) 26 [] [] j2 := by
    clear hj2
    have hm := ho2
    clear ho2
    obtain rfl := Option.some.inj hm
    exact j_vret G E d_R_addBytesTo_26 ⟨by decide, by decide⟩ ⟨rfl, rfl⟩
  clear ho2
  have hm := hj2
  clear hj2
  refine j_ifnull (tgt := 26) G d_R_addBytesTo_4 rfl (fun hc => ?_) (fun hc => ?_)
  · rw [if_pos hc] at hm
    obtain rfl := Option.some.inj hm
    refine j_lv [] rfl ?_
    exact hJ2
  · rw [if_neg hc] at hm
    refine j_aload_n G d_R_addBytesTo_7 rfl ?_
    refine j_aload_n G d_R_addBytesTo_8 rfl ?_
    obtain ⟨v3, hv3, hm⟩ := Option.bind_eq_some_iff.mp hm
    refine j_gR G d_R_addBytesTo_9 fl_R_33 hv3 ?_
    obtain ⟨v4, hv4, hm⟩ := Option.bind_eq_some_iff.mp hm
    obtain ⟨v5, hv5, hm⟩ := Option.bind_eq_some_iff.mp hm
    refine j_callV (As := []) G d_R_addBytesTo_12 (c_F_bytes _ G.off _ _ _ _ _ _ hv5) mw_F_bytes mi_F_bytes lk_R_51 rfl hv4 rfl rfl (Nat.le_of_ble_eq_true rfl) ⟨by decide, by decide⟩ ⟨by decide, by decide⟩ (fun v9 w9 hp => ?_)
    obtain ⟨rfl, rfl⟩ := hp
    refine j_aload_n G d_R_addBytesTo_15 rfl ?_
    obtain ⟨v6, hv6, hm⟩ := Option.bind_eq_some_iff.mp hm
    refine j_gI G d_R_addBytesTo_16 fl_R_42 hv6 ?_
    refine j_aload_n G d_R_addBytesTo_19 rfl ?_
    obtain ⟨v7, hv7, hm⟩ := Option.bind_eq_some_iff.mp hm
    obtain ⟨v8, hv8, hm⟩ := Option.bind_eq_some_iff.mp hm
    refine j_callV (As := []) G d_R_addBytesTo_20 (c_R_size _ G.off _ _ _ _ _ _ hv8) mw_R_size mi_R_size lk_R_45 rfl hv7 rfl rfl (Nat.le_of_ble_eq_true rfl) ⟨by decide, by decide⟩ ⟨by decide, by decide⟩ (fun v9 w9 hp => ?_)
    obtain ⟨rfl, rfl⟩ := hp
    obtain ⟨v9, hv9, hm⟩ := Option.bind_eq_some_iff.mp hm
    obtain ⟨v10, hv10, hm⟩ := Option.bind_eq_some_iff.mp hm
    refine j_callV (As := [aRf v5, aI v6, aI v8]) G d_R_addBytesTo_23 (c_O_addFrom _ G.off _ _ _ _ _ _ _ _ _ hv10) mw_O_addFrom mi_O_addFrom lk_R_64 rfl hv9 rfl rfl (Nat.le_of_ble_eq_true rfl) ⟨by decide, by decide⟩ ⟨by decide, by decide⟩ (fun v9 w9 hp => ?_)
    obtain ⟨rfl, rfl⟩ := hp
    obtain rfl := Option.some.inj hm
    refine j_lv [] rfl ?_
    exact hJ2
noncomputable def f_F_appendCopy (w : aw_W) (o : Option Nat) (p1 : Option Nat) : Option (aw_W) :=
  (aw_gR w o 6 0).bind fun v1 =>
  (aw_obj w v1 3).bind fun v2 =>
  (f_O_size w v1).bind fun v3 =>
  (aw_gR w o 6 0).bind fun v4 =>
  (aw_obj w p1 4).bind fun v5 =>
  (f_R_addBytesTo w p1 v4).bind fun v6 =>
  (aw_gL v6 p1 4 2).bind fun v7 =>
  (aw_gI v6 p1 4 3).bind fun v8 =>
  (aw_obj v6 o 6).bind fun v9 =>
  (f_F_note v6 o v3 v7 v8 p1).bind fun v10 =>
  some v10.2
abbrev rm_F_appendCopy : Room := { frames := 4, cells := 0, slots := 0, locals := 82 }
set_option maxRecDepth 100000 in
set_option maxHeartbeats 4000000 in
theorem c_F_appendCopy (l : Launch) (hl : l.stackTraces = false) (D : va_G) (dA : Nat → ClassId) (base : Nat) (w : aw_W) (o : Option Nat) (p1 : Option Nat) (r : aw_W) (hm : f_F_appendCopy w o p1 = some r) : aj_Ct l D dA base m_F_appendCopy rm_F_appendCopy [aRf o, aRf p1] w (fun v w' => none = v ∧ r = w') := by
  refine aj_enter hl (by decide) (Nat.le_of_ble_eq_true rfl) ?_
  intro Γ G E
  unfold f_F_appendCopy at hm
  refine j_aload_n G d_F_appendCopy_0 rfl ?_
  obtain ⟨v1, hv1, hm⟩ := Option.bind_eq_some_iff.mp hm
  refine j_gR G d_F_appendCopy_1 fl_F_14 hv1 ?_
  obtain ⟨v2, hv2, hm⟩ := Option.bind_eq_some_iff.mp hm
  obtain ⟨v3, hv3, hm⟩ := Option.bind_eq_some_iff.mp hm
  refine j_callV (As := []) G d_F_appendCopy_4 (c_O_size _ G.off _ _ _ _ _ _ hv3) mw_O_size mi_O_size lk_F_43 rfl hv2 rfl rfl (Nat.le_of_ble_eq_true rfl) ⟨by decide, by decide⟩ ⟨by decide, by decide⟩ (fun v9 w9 hp => ?_)
  obtain ⟨rfl, rfl⟩ := hp
  refine j_istore_n G d_F_appendCopy_7 (by decide) ?_
  refine j_aload_n G d_F_appendCopy_8 rfl ?_
  refine j_aload_n G d_F_appendCopy_9 rfl ?_
  obtain ⟨v4, hv4, hm⟩ := Option.bind_eq_some_iff.mp hm
  refine j_gR G d_F_appendCopy_10 fl_F_14 hv4 ?_
  obtain ⟨v5, hv5, hm⟩ := Option.bind_eq_some_iff.mp hm
  obtain ⟨v6, hv6, hm⟩ := Option.bind_eq_some_iff.mp hm
  refine j_callV (As := [aRf v4]) G d_F_appendCopy_13 (c_R_addBytesTo _ G.off _ _ _ _ _ _ _ hv6) mw_R_addBytesTo mi_R_addBytesTo lk_F_88 rfl hv5 rfl rfl (Nat.le_of_ble_eq_true rfl) ⟨by decide, by decide⟩ ⟨by decide, by decide⟩ (fun v9 w9 hp => ?_)
  obtain ⟨rfl, rfl⟩ := hp
  refine j_aload_n G d_F_appendCopy_16 rfl ?_
  refine j_iload_n G d_F_appendCopy_17 rfl ?_
  refine j_aload_n G d_F_appendCopy_18 rfl ?_
  obtain ⟨v7, hv7, hm⟩ := Option.bind_eq_some_iff.mp hm
  refine j_gL G d_F_appendCopy_19 fl_F_92 hv7 ?_
  refine j_aload_n G d_F_appendCopy_22 rfl ?_
  obtain ⟨v8, hv8, hm⟩ := Option.bind_eq_some_iff.mp hm
  refine j_gI G d_F_appendCopy_23 fl_F_96 hv8 ?_
  refine j_aload_n G d_F_appendCopy_26 rfl ?_
  obtain ⟨v9, hv9, hm⟩ := Option.bind_eq_some_iff.mp hm
  obtain ⟨v10, hv10, hm⟩ := Option.bind_eq_some_iff.mp hm
  refine j_callV (As := [aI v3, aL v7, aI v8, aRf p1]) G d_F_appendCopy_27 (c_F_note _ G.off _ _ _ _ _ _ _ _ _ _ hv10) mw_F_note mi_F_note lk_F_84 rfl hv9 rfl rfl (Nat.le_of_ble_eq_true rfl) ⟨by decide, by decide⟩ ⟨by decide, by decide⟩ (fun v9 w9 hp => ?_)
  obtain ⟨rfl, rfl⟩ := hp
  refine j_pop G d_F_appendCopy_30 rfl ?_
  obtain rfl := Option.some.inj hm
  exact j_vret G E d_F_appendCopy_31 ⟨by decide, by decide⟩ ⟨rfl, rfl⟩
noncomputable def f_F_publishAs (w : aw_W) (o : Option Nat) (p1 : Int32) : Option (aw_W) :=
  (aw_pV w o 6 4 (.int p1)).bind fun v1 =>
  (aw_obj v1 o 6).bind fun v2 =>
  (f_F_syncAll v1 o).bind fun v3 =>
  (aw_wh (σ := Int32 × aw_W) (τ := Int32 × aw_W) (fun s4 =>
    (aw_gI s4.2 o 6 3).bind fun v5 =>
    if v5 ≤ s4.1 then
      some (.inr (s4.1, s4.2))
    else
      (aw_gR s4.2 o 6 2).bind fun v6 =>
      (aw_aR s4.2 v6 4 s4.1).bind fun v7 =>
      (aw_gI s4.2 v7 4 1).bind fun v8 =>
      (aw_gR s4.2 o 6 1).bind fun v9 =>
      (aw_gR s4.2 o 6 0).bind fun v10 =>
      (aw_obj s4.2 v9 3).bind fun v11 =>
      (f_O_addFrom s4.2 v9 v10 (v8 + (4 : Int32)) (4 : Int32)).bind fun v12 =>
      (aw_gR v12 o 6 1).bind fun v13 =>
      (aw_obj v12 v13 3).bind fun v14 =>
      (f_O_addByte v12 v13 v8).bind fun v15 =>
      (aw_gR v15 o 6 1).bind fun v16 =>
      (aw_gR v15 o 6 0).bind fun v17 =>
      (aw_gR v15 o 6 2).bind fun v18 =>
      (aw_aR v15 v18 4 s4.1).bind fun v19 =>
      (aw_obj v15 v19 4).bind fun v20 =>
      (f_R_keySize v15 v19).bind fun v21 =>
      (aw_obj v15 v16 3).bind fun v22 =>
      (f_O_addFrom v15 v16 v17 (v8 + (8 : Int32)) v21).bind fun v23 =>
      some (.inl (s4.1 + 1, v23))) ((0 : Int32), v3)).bind fun e24 =>
  (aw_gR e24.2 o 6 1).bind fun v25 =>
  (aw_gR e24.2 o 6 1).bind fun v26 =>
  (aw_gR e24.2 o 6 1).bind fun v27 =>
  (aw_obj e24.2 v27 3).bind fun v28 =>
  (f_O_size e24.2 v27).bind fun v29 =>
  (aw_obj e24.2 v26 3).bind fun v30 =>
  (f_O_sum e24.2 v26 (0 : Int32) v29).bind fun v31 =>
  (aw_obj e24.2 v25 3).bind fun v32 =>
  (f_O_addNumber e24.2 v25 v31 (4 : Int32)).bind fun v33 =>
  some v33
abbrev rm_F_publishAs : Room := { frames := 2, cells := 0, slots := 0, locals := 46 }
set_option maxRecDepth 100000 in
set_option maxHeartbeats 4000000 in
theorem c_F_publishAs (l : Launch) (hl : l.stackTraces = false) (D : va_G) (dA : Nat → ClassId) (base : Nat) (w : aw_W) (o : Option Nat) (p1 : Int32) (r : aw_W) (hm : f_F_publishAs w o p1 = some r) : aj_Ct l D dA base m_F_publishAs rm_F_publishAs [aRf o, aI p1] w (fun v w' => none = v ∧ r = w') := by
  refine aj_enter hl (by decide) (Nat.le_of_ble_eq_true rfl) ?_
  intro Γ G E
  unfold f_F_publishAs at hm
  refine j_aload_n G d_F_publishAs_0 rfl ?_
  refine j_iload_n G d_F_publishAs_1 rfl ?_
  obtain ⟨v1, hv1, hm⟩ := Option.bind_eq_some_iff.mp hm
  refine j_pV (ty := aY_F 4) G d_F_publishAs_2 fl_F_37 ac_F (aw_T_of_F 4 (by decide) rfl) rfl rfl hv1 ?_
  refine j_aload_n G d_F_publishAs_5 rfl ?_
  obtain ⟨v2, hv2, hm⟩ := Option.bind_eq_some_iff.mp hm
  obtain ⟨v3, hv3, hm⟩ := Option.bind_eq_some_iff.mp hm
  refine j_callV (As := []) G d_F_publishAs_6 (c_F_syncAll _ G.off _ _ _ _ _ _ hv3) mw_F_syncAll mi_F_syncAll lk_F_47 rfl hv2 rfl rfl (Nat.le_of_ble_eq_true rfl) ⟨by decide, by decide⟩ ⟨by decide, by decide⟩ (fun v9 w9 hp => ?_)
  obtain ⟨rfl, rfl⟩ := hp
  refine j_iconst (v := 0) G d_F_publishAs_9 (by decide) ?_
  refine j_istore_n G d_F_publishAs_10 (by decide) ?_
  obtain ⟨e4, he4, ho4⟩ := Option.bind_eq_some_iff.mp hm
  clear hm
  refine j_lv [(0, aRf o), (2, aI (0 : Int32))] rfl ?_
  refine aw_wh_elim (fun (s : Int32 × aw_W) => aj_J Γ 4 (0, 0) 11 [(0, aRf o), (2, aI s.1)] [] s.2) ?_ he4
  intro s4 x4 hm hin4 hout4
  try dsimp only at hm ⊢
  refine j_iload_n G d_F_publishAs_11 rfl ?_
  refine j_aload_n G d_F_publishAs_12 rfl ?_
  obtain ⟨v5, hv5, hm⟩ := Option.bind_eq_some_iff.mp hm
  refine j_gI G d_F_publishAs_13 fl_F_33 hv5 ?_
  refine j_icmp_ge (tgt := 82) G d_F_publishAs_16 rfl (fun hc => ?_) (fun hc => ?_)
  · rw [if_pos hc] at hm
    have q4 := hout4 _ (Option.some.inj hm).symm
    clear hin4 hout4
    subst q4
    clear hm
    have hm := ho4
    clear ho4
    try dsimp only at hm
    refine j_aload_n G d_F_publishAs_82 rfl ?_
    obtain ⟨v6, hv6, hm⟩ := Option.bind_eq_some_iff.mp hm
    refine j_gR G d_F_publishAs_83 fl_F_20 hv6 ?_
    refine j_aload_n G d_F_publishAs_86 rfl ?_
    obtain ⟨v7, hv7, hm⟩ := Option.bind_eq_some_iff.mp hm
    refine j_gR G d_F_publishAs_87 fl_F_20 hv7 ?_
    refine j_iconst (v := 0) G d_F_publishAs_90 (by decide) ?_
    refine j_aload_n G d_F_publishAs_91 rfl ?_
    obtain ⟨v8, hv8, hm⟩ := Option.bind_eq_some_iff.mp hm
    refine j_gR G d_F_publishAs_92 fl_F_20 hv8 ?_
    obtain ⟨v9, hv9, hm⟩ := Option.bind_eq_some_iff.mp hm
    obtain ⟨v10, hv10, hm⟩ := Option.bind_eq_some_iff.mp hm
    refine j_callV (As := []) G d_F_publishAs_95 (c_O_size _ G.off _ _ _ _ _ _ hv10) mw_O_size mi_O_size lk_F_43 rfl hv9 rfl rfl (Nat.le_of_ble_eq_true rfl) ⟨by decide, by decide⟩ ⟨by decide, by decide⟩ (fun v9 w9 hp => ?_)
    obtain ⟨rfl, rfl⟩ := hp
    obtain ⟨v11, hv11, hm⟩ := Option.bind_eq_some_iff.mp hm
    obtain ⟨v12, hv12, hm⟩ := Option.bind_eq_some_iff.mp hm
    refine j_callV (As := [aI (0 : Int32), aI v10]) G d_F_publishAs_98 (c_O_sum _ G.off _ _ _ _ _ _ _ _ hv12) mw_O_sum mi_O_sum lk_F_76 rfl hv11 rfl rfl (Nat.le_of_ble_eq_true rfl) ⟨by decide, by decide⟩ ⟨by decide, by decide⟩ (fun v9 w9 hp => ?_)
    obtain ⟨rfl, rfl⟩ := hp
    refine j_iconst (v := 4) G d_F_publishAs_101 (by decide) ?_
    obtain ⟨v13, hv13, hm⟩ := Option.bind_eq_some_iff.mp hm
    obtain ⟨v14, hv14, hm⟩ := Option.bind_eq_some_iff.mp hm
    refine j_callV (As := [aL v12, aI (4 : Int32)]) G d_F_publishAs_102 (c_O_addNumber _ G.off _ _ _ _ _ _ _ _ hv14) mw_O_addNumber mi_O_addNumber lk_F_62 rfl hv13 rfl rfl (Nat.le_of_ble_eq_true rfl) ⟨by decide, by decide⟩ ⟨by decide, by decide⟩ (fun v9 w9 hp => ?_)
    obtain ⟨rfl, rfl⟩ := hp
    obtain rfl := Option.some.inj hm
    exact j_vret G E d_F_publishAs_105 ⟨by decide, by decide⟩ ⟨rfl, rfl⟩
  · rw [if_neg hc] at hm
    refine j_aload_n G d_F_publishAs_19 rfl ?_
    obtain ⟨v15, hv15, hm⟩ := Option.bind_eq_some_iff.mp hm
    refine j_gR G d_F_publishAs_20 fl_F_25 hv15 ?_
    refine j_iload_n G d_F_publishAs_23 rfl ?_
    obtain ⟨v16, hv16, hm⟩ := Option.bind_eq_some_iff.mp hm
    refine j_aald (C := "AppendStore$Rec") G d_F_publishAs_24 rfl hv16 ?_
    obtain ⟨v17, hv17, hm⟩ := Option.bind_eq_some_iff.mp hm
    refine j_gI G d_F_publishAs_25 fl_F_101 hv17 ?_
    refine j_istore_n G d_F_publishAs_28 (by decide) ?_
    refine j_aload_n G d_F_publishAs_29 rfl ?_
    obtain ⟨v18, hv18, hm⟩ := Option.bind_eq_some_iff.mp hm
    refine j_gR G d_F_publishAs_30 fl_F_20 hv18 ?_
    refine j_aload_n G d_F_publishAs_33 rfl ?_
    obtain ⟨v19, hv19, hm⟩ := Option.bind_eq_some_iff.mp hm
    refine j_gR G d_F_publishAs_34 fl_F_14 hv19 ?_
    refine j_iload_n G d_F_publishAs_37 rfl ?_
    refine j_iconst (v := 4) G d_F_publishAs_38 (by decide) ?_
    refine j_iadd G d_F_publishAs_39 ?_
    refine j_iconst (v := 4) G d_F_publishAs_40 (by decide) ?_
    obtain ⟨v20, hv20, hm⟩ := Option.bind_eq_some_iff.mp hm
    obtain ⟨v21, hv21, hm⟩ := Option.bind_eq_some_iff.mp hm
    refine j_callV (As := [aRf v19, aI (v17 + (4 : Int32)), aI (4 : Int32)]) G d_F_publishAs_41 (c_O_addFrom _ G.off _ _ _ _ _ _ _ _ _ hv21) mw_O_addFrom mi_O_addFrom lk_F_104 rfl hv20 rfl rfl (Nat.le_of_ble_eq_true rfl) ⟨by decide, by decide⟩ ⟨by decide, by decide⟩ (fun v9 w9 hp => ?_)
    obtain ⟨rfl, rfl⟩ := hp
    refine j_aload_n G d_F_publishAs_44 rfl ?_
    obtain ⟨v22, hv22, hm⟩ := Option.bind_eq_some_iff.mp hm
    refine j_gR G d_F_publishAs_45 fl_F_20 hv22 ?_
    refine j_iload_n G d_F_publishAs_48 rfl ?_
    obtain ⟨v23, hv23, hm⟩ := Option.bind_eq_some_iff.mp hm
    obtain ⟨v24, hv24, hm⟩ := Option.bind_eq_some_iff.mp hm
    refine j_callV (As := [aI v17]) G d_F_publishAs_49 (c_O_addByte _ G.off _ _ _ _ _ _ _ hv24) mw_O_addByte mi_O_addByte lk_F_66 rfl hv23 rfl rfl (Nat.le_of_ble_eq_true rfl) ⟨by decide, by decide⟩ ⟨by decide, by decide⟩ (fun v9 w9 hp => ?_)
    obtain ⟨rfl, rfl⟩ := hp
    refine j_aload_n G d_F_publishAs_52 rfl ?_
    obtain ⟨v25, hv25, hm⟩ := Option.bind_eq_some_iff.mp hm
    refine j_gR G d_F_publishAs_53 fl_F_20 hv25 ?_
    refine j_aload_n G d_F_publishAs_56 rfl ?_
    obtain ⟨v26, hv26, hm⟩ := Option.bind_eq_some_iff.mp hm
    refine j_gR G d_F_publishAs_57 fl_F_14 hv26 ?_
    refine j_iload_n G d_F_publishAs_60 rfl ?_
    refine j_bipush (v := 8) G d_F_publishAs_61 (by decide) ?_
    refine j_iadd G d_F_publishAs_63 ?_
    refine j_aload_n G d_F_publishAs_64 rfl ?_
    obtain ⟨v27, hv27, hm⟩ := Option.bind_eq_some_iff.mp hm
    refine j_gR G d_F_publishAs_65 fl_F_25 hv27 ?_
    refine j_iload_n G d_F_publishAs_68 rfl ?_
    obtain ⟨v28, hv28, hm⟩ := Option.bind_eq_some_iff.mp hm
    refine j_aald (C := "AppendStore$Rec") G d_F_publishAs_69 rfl hv28 ?_
    obtain ⟨v29, hv29, hm⟩ := Option.bind_eq_some_iff.mp hm
    obtain ⟨v30, hv30, hm⟩ := Option.bind_eq_some_iff.mp hm
    refine j_callV (As := []) G d_F_publishAs_70 (c_R_keySize _ G.off _ _ _ _ _ _ hv30) mw_R_keySize mi_R_keySize lk_F_108 rfl hv29 rfl rfl (Nat.le_of_ble_eq_true rfl) ⟨by decide, by decide⟩ ⟨by decide, by decide⟩ (fun v9 w9 hp => ?_)
    obtain ⟨rfl, rfl⟩ := hp
    obtain ⟨v31, hv31, hm⟩ := Option.bind_eq_some_iff.mp hm
    obtain ⟨v32, hv32, hm⟩ := Option.bind_eq_some_iff.mp hm
    refine j_callV (As := [aRf v26, aI (v17 + (8 : Int32)), aI v30]) G d_F_publishAs_73 (c_O_addFrom _ G.off _ _ _ _ _ _ _ _ _ hv32) mw_O_addFrom mi_O_addFrom lk_F_104 rfl hv31 rfl rfl (Nat.le_of_ble_eq_true rfl) ⟨by decide, by decide⟩ ⟨by decide, by decide⟩ (fun v9 w9 hp => ?_)
    obtain ⟨rfl, rfl⟩ := hp
    refine j_iinc (v := s4.1 + 1) G d_F_publishAs_76 rfl (by first | rfl | decide) (by decide) ?_
    refine j_goto (tgt := 11) G d_F_publishAs_79 rfl ?_
    refine j_lv [(0, aRf o), (2, aI (s4.1 + 1))] rfl ?_
    have z9 := hin4 _ (Option.some.inj hm).symm
    exact z9
noncomputable def f_D_replace (w : aw_W) (o : Option Nat) (p1 : Option Nat) (p2 : Option Nat) : Option (aw_W) :=
  (if p1 = none then
      some w
    else
      (aw_obj w o 1).bind fun v1 =>
      (f_D_has w o p1).bind fun v2 =>
      if v2 = 0 then
        some w
      else
        (aw_obj w o 1).bind fun v3 =>
        (f_D_enter w o p2).bind fun v4 =>
        some v4 : Option (aw_W)).bind fun j5 =>
  some j5
abbrev rm_D_replace : Room := { frames := 3, cells := 0, slots := 0, locals := 67 }
set_option maxRecDepth 100000 in
set_option maxHeartbeats 4000000 in
theorem c_D_replace (l : Launch) (hl : l.stackTraces = false) (D : va_G) (dA : Nat → ClassId) (base : Nat) (w : aw_W) (o : Option Nat) (p1 : Option Nat) (p2 : Option Nat) (r : aw_W) (hm : f_D_replace w o p1 p2 = some r) : aj_Ct l D dA base m_D_replace rm_D_replace [aRf o, aRf p1, aRf p2] w (fun v w' => none = v ∧ r = w') := by
  refine aj_enter hl (by decide) (Nat.le_of_ble_eq_true rfl) ?_
  intro Γ G E
  unfold f_D_replace at hm
  refine j_aload_n G d_D_replace_0 rfl ?_
  obtain ⟨j1, hj1, ho1⟩ := Option.bind_eq_some_iff.mp hm
  clear hm
  have hJ1 : aj_J Γ 3 (0, 0) 17 [] [] j1 := by
    clear hj1
    have hm := ho1
    clear ho1
    obtain rfl := Option.some.inj hm
    exact j_vret G E d_D_replace_17 ⟨by decide, by decide⟩ ⟨rfl, rfl⟩
  clear ho1
  have hm := hj1
  clear hj1
  refine j_ifnull (tgt := 17) G d_D_replace_1 rfl (fun hc => ?_) (fun hc => ?_)
  · rw [if_pos hc] at hm
    obtain rfl := Option.some.inj hm
    refine j_lv [] rfl ?_
    exact hJ1
  · rw [if_neg hc] at hm
    refine j_aload_n G d_D_replace_4 rfl ?_
    refine j_aload_n G d_D_replace_5 rfl ?_
    obtain ⟨v2, hv2, hm⟩ := Option.bind_eq_some_iff.mp hm
    obtain ⟨v3, hv3, hm⟩ := Option.bind_eq_some_iff.mp hm
    refine j_callV (As := [aRf p1]) G d_D_replace_6 (c_D_has _ G.off _ _ _ _ _ _ _ hv3) mw_D_has mi_D_has lk_D_51 rfl hv2 rfl rfl (Nat.le_of_ble_eq_true rfl) ⟨by decide, by decide⟩ ⟨by decide, by decide⟩ (fun v9 w9 hp => ?_)
    obtain ⟨rfl, rfl⟩ := hp
    refine j_if_eq (tgt := 17) G d_D_replace_9 rfl (fun hc => ?_) (fun hc => ?_)
    · rw [if_pos hc] at hm
      obtain rfl := Option.some.inj hm
      refine j_lv [] rfl ?_
      exact hJ1
    · rw [if_neg hc] at hm
      refine j_aload_n G d_D_replace_12 rfl ?_
      refine j_aload_n G d_D_replace_13 rfl ?_
      obtain ⟨v4, hv4, hm⟩ := Option.bind_eq_some_iff.mp hm
      obtain ⟨v5, hv5, hm⟩ := Option.bind_eq_some_iff.mp hm
      refine j_callV (As := [aRf p2]) G d_D_replace_14 (c_D_enter _ G.off _ _ _ _ _ _ _ hv5) mw_D_enter mi_D_enter lk_D_55 rfl hv4 rfl rfl (Nat.le_of_ble_eq_true rfl) ⟨by decide, by decide⟩ ⟨by decide, by decide⟩ (fun v9 w9 hp => ?_)
      obtain ⟨rfl, rfl⟩ := hp
      obtain rfl := Option.some.inj hm
      refine j_lv [] rfl ?_
      exact hJ1
noncomputable def f_F_synced (w : aw_W) (o : Option Nat) : Option (Int32) :=
  (aw_gI w o 6 5).bind fun v1 =>
  some v1
abbrev rm_F_synced : Room := { frames := 0, cells := 0, slots := 0, locals := 0 }
set_option maxRecDepth 100000 in
set_option maxHeartbeats 4000000 in
theorem c_F_synced (l : Launch) (hl : l.stackTraces = false) (D : va_G) (dA : Nat → ClassId) (base : Nat) (w : aw_W) (o : Option Nat) (r : Int32) (hm : f_F_synced w o = some r) : aj_Ct l D dA base m_F_synced rm_F_synced [aRf o] w (fun v w' => some (aI r) = v ∧ w = w') := by
  refine aj_enter hl (by decide) (Nat.le_of_ble_eq_true rfl) ?_
  intro Γ G E
  unfold f_F_synced at hm
  refine j_aload_n G d_F_synced_0 rfl ?_
  obtain ⟨v1, hv1, hm⟩ := Option.bind_eq_some_iff.mp hm
  refine j_gI G d_F_synced_1 fl_F_40 hv1 ?_
  obtain rfl := Option.some.inj hm
  exact j_iret G E d_F_synced_4 ⟨by decide, by decide⟩ ⟨rfl, rfl⟩
noncomputable def f_F_liveBytes (w : aw_W) (o : Option Nat) (p1 : Option Nat) : Option (Int32) :=
  (aw_wh (σ := Int32 × Int32) (τ := Int32 × Int32) (fun s1 =>
    (aw_gI w o 6 3).bind fun v2 =>
    if v2 ≤ s1.2 then
      some (.inr (s1.1, s1.2))
    else
      (aw_gR w o 6 2).bind fun v3 =>
      (aw_aR w v3 4 s1.2).bind fun v4 =>
      (aw_obj w p1 1).bind fun v5 =>
      (f_D_has w p1 v4).bind fun v6 =>
      (if v6 = 0 then
          some s1.1
        else
          (aw_gR w o 6 2).bind fun v7 =>
          (aw_aR w v7 4 s1.2).bind fun v8 =>
          (aw_obj w v8 4).bind fun v9 =>
          (f_R_size w v8).bind fun v10 =>
          some (s1.1 + v10) : Option (Int32)).bind fun j11 =>
      some (.inl (j11, s1.2 + 1))) ((0 : Int32), (0 : Int32))).bind fun e12 =>
  some e12.1
abbrev rm_F_liveBytes : Room := { frames := 3, cells := 0, slots := 0, locals := 67 }
set_option maxRecDepth 100000 in
set_option maxHeartbeats 4000000 in
theorem c_F_liveBytes (l : Launch) (hl : l.stackTraces = false) (D : va_G) (dA : Nat → ClassId) (base : Nat) (w : aw_W) (o : Option Nat) (p1 : Option Nat) (r : Int32) (hm : f_F_liveBytes w o p1 = some r) : aj_Ct l D dA base m_F_liveBytes rm_F_liveBytes [aRf o, aRf p1] w (fun v w' => some (aI r) = v ∧ w = w') := by
  refine aj_enter hl (by decide) (Nat.le_of_ble_eq_true rfl) ?_
  intro Γ G E
  unfold f_F_liveBytes at hm
  refine j_iconst (v := 0) G d_F_liveBytes_0 (by decide) ?_
  refine j_istore_n G d_F_liveBytes_1 (by decide) ?_
  refine j_iconst (v := 0) G d_F_liveBytes_2 (by decide) ?_
  refine j_istore_n G d_F_liveBytes_3 (by decide) ?_
  obtain ⟨e1, he1, ho1⟩ := Option.bind_eq_some_iff.mp hm
  clear hm
  refine j_lv [(0, aRf o), (1, aRf p1), (2, aI (0 : Int32)), (3, aI (0 : Int32))] rfl ?_
  refine aw_wh_elim (fun (s : Int32 × Int32) => aj_J Γ 4 (0, 0) 4 [(0, aRf o), (1, aRf p1), (2, aI s.1), (3, aI s.2)] [] w) ?_ he1
  intro s1 x1 hm hin1 hout1
  try dsimp only at hm ⊢
  refine j_iload_n G d_F_liveBytes_4 rfl ?_
  refine j_aload_n G d_F_liveBytes_5 rfl ?_
  obtain ⟨v2, hv2, hm⟩ := Option.bind_eq_some_iff.mp hm
  refine j_gI G d_F_liveBytes_6 fl_F_33 hv2 ?_
  refine j_icmp_ge (tgt := 43) G d_F_liveBytes_9 rfl (fun hc => ?_) (fun hc => ?_)
  · rw [if_pos hc] at hm
    have q1 := hout1 _ (Option.some.inj hm).symm
    clear hin1 hout1
    subst q1
    clear hm
    have hm := ho1
    clear ho1
    try dsimp only at hm
    refine j_iload_n G d_F_liveBytes_43 rfl ?_
    obtain rfl := Option.some.inj hm
    exact j_iret G E d_F_liveBytes_44 ⟨by decide, by decide⟩ ⟨rfl, rfl⟩
  · rw [if_neg hc] at hm
    refine j_aload_n G d_F_liveBytes_12 rfl ?_
    refine j_aload_n G d_F_liveBytes_13 rfl ?_
    obtain ⟨v3, hv3, hm⟩ := Option.bind_eq_some_iff.mp hm
    refine j_gR G d_F_liveBytes_14 fl_F_25 hv3 ?_
    refine j_iload_n G d_F_liveBytes_17 rfl ?_
    obtain ⟨v4, hv4, hm⟩ := Option.bind_eq_some_iff.mp hm
    refine j_aald (C := "AppendStore$Rec") G d_F_liveBytes_18 rfl hv4 ?_
    obtain ⟨v5, hv5, hm⟩ := Option.bind_eq_some_iff.mp hm
    obtain ⟨v6, hv6, hm⟩ := Option.bind_eq_some_iff.mp hm
    refine j_callV (As := [aRf v4]) G d_F_liveBytes_19 (c_D_has _ G.off _ _ _ _ _ _ _ hv6) mw_D_has mi_D_has lk_F_50 rfl hv5 rfl rfl (Nat.le_of_ble_eq_true rfl) ⟨by decide, by decide⟩ ⟨by decide, by decide⟩ (fun v9 w9 hp => ?_)
    obtain ⟨rfl, rfl⟩ := hp
    obtain ⟨j7, hj7, ho7⟩ := Option.bind_eq_some_iff.mp hm
    clear hm
    have hJ7 : aj_J Γ 4 (0, 0) 37 [(0, aRf o), (1, aRf p1), (2, aI j7), (3, aI s1.2)] [] w := by
      clear hj7
      have hm := ho7
      clear ho7
      refine j_iinc (v := s1.2 + 1) G d_F_liveBytes_37 rfl (by first | rfl | decide) (by decide) ?_
      refine j_goto (tgt := 4) G d_F_liveBytes_40 rfl ?_
      refine j_lv [(0, aRf o), (1, aRf p1), (2, aI j7), (3, aI (s1.2 + 1))] rfl ?_
      have z9 := hin1 _ (Option.some.inj hm).symm
      exact z9
    clear ho7
    have hm := hj7
    clear hj7
    refine j_if_eq (tgt := 37) G d_F_liveBytes_22 rfl (fun hc => ?_) (fun hc => ?_)
    · rw [if_pos hc] at hm
      obtain rfl := Option.some.inj hm
      refine j_lv [(0, aRf o), (1, aRf p1), (2, aI s1.1), (3, aI s1.2)] rfl ?_
      exact hJ7
    · rw [if_neg hc] at hm
      refine j_iload_n G d_F_liveBytes_25 rfl ?_
      refine j_aload_n G d_F_liveBytes_26 rfl ?_
      obtain ⟨v8, hv8, hm⟩ := Option.bind_eq_some_iff.mp hm
      refine j_gR G d_F_liveBytes_27 fl_F_25 hv8 ?_
      refine j_iload_n G d_F_liveBytes_30 rfl ?_
      obtain ⟨v9, hv9, hm⟩ := Option.bind_eq_some_iff.mp hm
      refine j_aald (C := "AppendStore$Rec") G d_F_liveBytes_31 rfl hv9 ?_
      obtain ⟨v10, hv10, hm⟩ := Option.bind_eq_some_iff.mp hm
      obtain ⟨v11, hv11, hm⟩ := Option.bind_eq_some_iff.mp hm
      refine j_callV (As := []) G d_F_liveBytes_32 (c_R_size _ G.off _ _ _ _ _ _ hv11) mw_R_size mi_R_size lk_F_56 rfl hv10 rfl rfl (Nat.le_of_ble_eq_true rfl) ⟨by decide, by decide⟩ ⟨by decide, by decide⟩ (fun v9 w9 hp => ?_)
      obtain ⟨rfl, rfl⟩ := hp
      refine j_iadd G d_F_liveBytes_35 ?_
      refine j_istore_n G d_F_liveBytes_36 (by decide) ?_
      obtain rfl := Option.some.inj hm
      refine j_lv [(0, aRf o), (1, aRf p1), (2, aI (s1.1 + v11)), (3, aI s1.2)] rfl ?_
      exact hJ7
noncomputable def f_F_hint (w : aw_W) (o : Option Nat) : Option (Option Nat) :=
  (aw_gR w o 6 1).bind fun v1 =>
  some v1
abbrev rm_F_hint : Room := { frames := 0, cells := 0, slots := 0, locals := 0 }
set_option maxRecDepth 100000 in
set_option maxHeartbeats 4000000 in
theorem c_F_hint (l : Launch) (hl : l.stackTraces = false) (D : va_G) (dA : Nat → ClassId) (base : Nat) (w : aw_W) (o : Option Nat) (r : Option Nat) (hm : f_F_hint w o = some r) : aj_Ct l D dA base m_F_hint rm_F_hint [aRf o] w (fun v w' => some (aRf r) = v ∧ w = w') := by
  refine aj_enter hl (by decide) (Nat.le_of_ble_eq_true rfl) ?_
  intro Γ G E
  unfold f_F_hint at hm
  refine j_aload_n G d_F_hint_0 rfl ?_
  obtain ⟨v1, hv1, hm⟩ := Option.bind_eq_some_iff.mp hm
  refine j_gR G d_F_hint_1 fl_F_20 hv1 ?_
  obtain rfl := Option.some.inj hm
  exact j_aret G E d_F_hint_4 ⟨by decide, by decide⟩ ⟨rfl, rfl⟩
