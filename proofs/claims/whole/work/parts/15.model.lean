noncomputable def f_M_init (w : aw_W) (o : Option Nat) : Option (aw_W) :=
  (o).bind fun v1 =>
  (w.1).bind fun v2 =>
  (aw_pV (aw_add w v2 (.inl (1, (12, .inl (fun _ => 0))))) o 7 2 (va_rf (some v2))).bind fun v3 =>
  (v3.1).bind fun v4 =>
  (aw_pV (aw_add v3 v4 (.inl (1, (12, .inl (fun _ => 0))))) o 7 3 (va_rf (some v4))).bind fun v5 =>
  (v5.1).bind fun v6 =>
  (aw_pV (aw_add v5 v6 (.inl (1, (12, .inl (fun _ => 0))))) o 7 4 (va_rf (some v6))).bind fun v7 =>
  (v7.1).bind fun v8 =>
  (aw_pV (aw_add v7 v8 (.inl (1, (1200, .inl (fun _ => 0))))) o 7 5 (va_rf (some v8))).bind fun v9 =>
  (v9.1).bind fun v10 =>
  (aw_pV (aw_add v9 v10 (.inl (3, (12, .inl (fun _ => 0))))) o 7 6 (va_rf (some v10))).bind fun v11 =>
  (v11.1).bind fun v12 =>
  (aw_pV (aw_add v11 v12 (.inl (1, (12, .inl (fun _ => 0))))) o 7 7 (va_rf (some v12))).bind fun v13 =>
  (v13.1).bind fun v14 =>
  (aw_pV (aw_add v13 v14 (.inl (1, (1440, .inl (fun _ => 0))))) o 7 8 (va_rf (some v14))).bind fun v15 =>
  (v15.1).bind fun v16 =>
  (aw_pV (aw_add v15 v16 (.inl (1, (12, .inl (fun _ => 0))))) o 7 9 (va_rf (some v16))).bind fun v17 =>
  (v17.1).bind fun v18 =>
  (aw_pV (aw_add v17 v18 (.inl (1, (144, .inl (fun _ => 0))))) o 7 10 (va_rf (some v18))).bind fun v19 =>
  (v19.1).bind fun v20 =>
  (aw_pV (aw_add v19 v20 (.inl (1, (144, .inl (fun _ => 0))))) o 7 11 (va_rf (some v20))).bind fun v21 =>
  (v21.1).bind fun v22 =>
  (aw_pV (aw_add v21 v22 (.inl (1, (144, .inl (fun _ => 0))))) o 7 12 (va_rf (some v22))).bind fun v23 =>
  (v23.1).bind fun v24 =>
  (aw_pV (aw_add v23 v24 (.inl (1, (144, .inl (fun _ => 0))))) o 7 13 (va_rf (some v24))).bind fun v25 =>
  (v25.1).bind fun v26 =>
  (aw_pV (aw_add v25 v26 (.inl (1, (144, .inl (fun _ => 0))))) o 7 14 (va_rf (some v26))).bind fun v27 =>
  (v27.1).bind fun v28 =>
  (aw_pV (aw_add v27 v28 (.inl (2, (80, .inr (.inl (fun _ => 0)))))) o 7 16 (va_rf (some v28))).bind fun v29 =>
  (v29.1).bind fun v30 =>
  (aw_pV (aw_add v29 v30 (.inl (1, (80, .inl (fun _ => 0))))) o 7 17 (va_rf (some v30))).bind fun v31 =>
  (v31.1).bind fun v32 =>
  (aw_pV (aw_add v31 v32 (.inl (1, (80, .inl (fun _ => 0))))) o 7 18 (va_rf (some v32))).bind fun v33 =>
  (v33.1).bind fun v34 =>
  (aw_pV (aw_add v33 v34 (.inl (1, (80, .inl (fun _ => 0))))) o 7 19 (va_rf (some v34))).bind fun v35 =>
  some v35
abbrev rm_M_init : Room := { frames := 1, cells := 17, slots := 3752, locals := 12 }
set_option maxRecDepth 100000 in
set_option maxHeartbeats 4000000 in
theorem c_M_init (l : Launch) (hl : l.stackTraces = false) (D : va_G) (dA : Nat → ClassId) (base : Nat) (w : aw_W) (o : Option Nat) (r : aw_W) (hm : f_M_init w o = some r) : aj_Ct l D dA base m_M_init rm_M_init [aRf o] w (fun v w' => none = v ∧ r = w') := by
  refine aj_enter hl (by decide) (Nat.le_of_ble_eq_true rfl) ?_
  intro Γ G E
  unfold f_M_init at hm
  refine j_aload_n G d_M_init_0 rfl ?_
  obtain ⟨v1, hv1, hm⟩ := Option.bind_eq_some_iff.mp hm
  refine j_objInitR G d_M_init_1 wd_4_12 wd_1_24 wd_1_25 ⟨by decide, Nat.le_of_ble_eq_true rfl⟩ hv1 ?_
  refine j_aload_n G d_M_init_4 rfl ?_
  refine j_bipush (v := 12) G d_M_init_5 (by decide) ?_
  obtain ⟨v2, hv2, hm⟩ := Option.bind_eq_some_iff.mp hm
  refine j_newa (t := 1) (N := 12) (ty := .int) (a0 := (12, .inl (fun _ => 0))) G d_M_init_7 wd_4_101 rfl ((G.K.1.2 1 _ rfl).2) (fun cA => by rw [vp_cell_i]; rfl) (by decide) (by decide) (by decide) hv2 ⟨by decide, by decide⟩ ?_
  obtain ⟨v3, hv3, hm⟩ := Option.bind_eq_some_iff.mp hm
  refine j_pF (ty := aY_M 2) G d_M_init_9 fl_M_7 ac_M (aw_T_of_M 2 (by decide) rfl) rfl rfl (by rintro _ _ _ ⟨⟩; exact wd_4_15) (aw_nA _ _) (aw_fA _ _) hv3 ?_
  refine j_aload_n G d_M_init_12 rfl ?_
  refine j_bipush (v := 12) G d_M_init_13 (by decide) ?_
  obtain ⟨v4, hv4, hm⟩ := Option.bind_eq_some_iff.mp hm
  refine j_newa (t := 1) (N := 12) (ty := .int) (a0 := (12, .inl (fun _ => 0))) G d_M_init_15 wd_4_101 rfl ((G.K.1.2 1 _ rfl).2) (fun cA => by rw [vp_cell_i]; rfl) (by decide) (by decide) (by decide) hv4 ⟨by decide, by decide⟩ ?_
  obtain ⟨v5, hv5, hm⟩ := Option.bind_eq_some_iff.mp hm
  refine j_pF (ty := aY_M 3) G d_M_init_17 fl_M_13 ac_M (aw_T_of_M 3 (by decide) rfl) rfl rfl (by rintro _ _ _ ⟨⟩; exact wd_4_16) (aw_nA _ _) (aw_fA _ _) hv5 ?_
  refine j_aload_n G d_M_init_20 rfl ?_
  refine j_bipush (v := 12) G d_M_init_21 (by decide) ?_
  obtain ⟨v6, hv6, hm⟩ := Option.bind_eq_some_iff.mp hm
  refine j_newa (t := 1) (N := 12) (ty := .int) (a0 := (12, .inl (fun _ => 0))) G d_M_init_23 wd_4_101 rfl ((G.K.1.2 1 _ rfl).2) (fun cA => by rw [vp_cell_i]; rfl) (by decide) (by decide) (by decide) hv6 ⟨by decide, by decide⟩ ?_
  obtain ⟨v7, hv7, hm⟩ := Option.bind_eq_some_iff.mp hm
  refine j_pF (ty := aY_M 4) G d_M_init_25 fl_M_16 ac_M (aw_T_of_M 4 (by decide) rfl) rfl rfl (by rintro _ _ _ ⟨⟩; exact wd_4_17) (aw_nA _ _) (aw_fA _ _) hv7 ?_
  refine j_aload_n G d_M_init_28 rfl ?_
  refine j_sipush (v := 1200) G d_M_init_29 (by decide) ?_
  obtain ⟨v8, hv8, hm⟩ := Option.bind_eq_some_iff.mp hm
  refine j_newa (t := 1) (N := 1200) (ty := .int) (a0 := (1200, .inl (fun _ => 0))) G d_M_init_32 wd_4_101 rfl ((G.K.1.2 1 _ rfl).2) (fun cA => by rw [vp_cell_i]; rfl) (by decide) (by decide) (by decide) hv8 ⟨by decide, by decide⟩ ?_
  obtain ⟨v9, hv9, hm⟩ := Option.bind_eq_some_iff.mp hm
  refine j_pF (ty := aY_M 5) G d_M_init_34 fl_M_19 ac_M (aw_T_of_M 5 (by decide) rfl) rfl rfl (by rintro _ _ _ ⟨⟩; exact wd_4_18) (aw_nA _ _) (aw_fA _ _) hv9 ?_
  refine j_aload_n G d_M_init_37 rfl ?_
  refine j_bipush (v := 12) G d_M_init_38 (by decide) ?_
  obtain ⟨v10, hv10, hm⟩ := Option.bind_eq_some_iff.mp hm
  refine j_newa (t := 3) (N := 12) (ty := .boolean) (a0 := (12, .inl (fun _ => 0))) G d_M_init_40 wd_4_102 rfl ((G.K.1.2 3 _ rfl).2) (fun cA => by rw [vp_cell_i]; rfl) (by decide) (by decide) (by decide) hv10 ⟨by decide, by decide⟩ ?_
  obtain ⟨v11, hv11, hm⟩ := Option.bind_eq_some_iff.mp hm
  refine j_pF (ty := aY_M 6) G d_M_init_42 fl_M_22 ac_M (aw_T_of_M 6 (by decide) rfl) rfl rfl (by rintro _ _ _ ⟨⟩; exact wd_4_19) (aw_nA _ _) (aw_fA _ _) hv11 ?_
  refine j_aload_n G d_M_init_45 rfl ?_
  refine j_bipush (v := 12) G d_M_init_46 (by decide) ?_
  obtain ⟨v12, hv12, hm⟩ := Option.bind_eq_some_iff.mp hm
  refine j_newa (t := 1) (N := 12) (ty := .int) (a0 := (12, .inl (fun _ => 0))) G d_M_init_48 wd_4_101 rfl ((G.K.1.2 1 _ rfl).2) (fun cA => by rw [vp_cell_i]; rfl) (by decide) (by decide) (by decide) hv12 ⟨by decide, by decide⟩ ?_
  obtain ⟨v13, hv13, hm⟩ := Option.bind_eq_some_iff.mp hm
  refine j_pF (ty := aY_M 7) G d_M_init_50 fl_M_26 ac_M (aw_T_of_M 7 (by decide) rfl) rfl rfl (by rintro _ _ _ ⟨⟩; exact wd_4_20) (aw_nA _ _) (aw_fA _ _) hv13 ?_
  refine j_aload_n G d_M_init_53 rfl ?_
  refine j_sipush (v := 1440) G d_M_init_54 (by decide) ?_
  obtain ⟨v14, hv14, hm⟩ := Option.bind_eq_some_iff.mp hm
  refine j_newa (t := 1) (N := 1440) (ty := .int) (a0 := (1440, .inl (fun _ => 0))) G d_M_init_57 wd_4_101 rfl ((G.K.1.2 1 _ rfl).2) (fun cA => by rw [vp_cell_i]; rfl) (by decide) (by decide) (by decide) hv14 ⟨by decide, by decide⟩ ?_
  obtain ⟨v15, hv15, hm⟩ := Option.bind_eq_some_iff.mp hm
  refine j_pF (ty := aY_M 8) G d_M_init_59 fl_M_29 ac_M (aw_T_of_M 8 (by decide) rfl) rfl rfl (by rintro _ _ _ ⟨⟩; exact wd_4_21) (aw_nA _ _) (aw_fA _ _) hv15 ?_
  refine j_aload_n G d_M_init_62 rfl ?_
  refine j_bipush (v := 12) G d_M_init_63 (by decide) ?_
  obtain ⟨v16, hv16, hm⟩ := Option.bind_eq_some_iff.mp hm
  refine j_newa (t := 1) (N := 12) (ty := .int) (a0 := (12, .inl (fun _ => 0))) G d_M_init_65 wd_4_101 rfl ((G.K.1.2 1 _ rfl).2) (fun cA => by rw [vp_cell_i]; rfl) (by decide) (by decide) (by decide) hv16 ⟨by decide, by decide⟩ ?_
  obtain ⟨v17, hv17, hm⟩ := Option.bind_eq_some_iff.mp hm
  refine j_pF (ty := aY_M 9) G d_M_init_67 fl_M_32 ac_M (aw_T_of_M 9 (by decide) rfl) rfl rfl (by rintro _ _ _ ⟨⟩; exact wd_4_22) (aw_nA _ _) (aw_fA _ _) hv17 ?_
  refine j_aload_n G d_M_init_70 rfl ?_
  refine j_sipush (v := 144) G d_M_init_71 (by decide) ?_
  obtain ⟨v18, hv18, hm⟩ := Option.bind_eq_some_iff.mp hm
  refine j_newa (t := 1) (N := 144) (ty := .int) (a0 := (144, .inl (fun _ => 0))) G d_M_init_74 wd_4_101 rfl ((G.K.1.2 1 _ rfl).2) (fun cA => by rw [vp_cell_i]; rfl) (by decide) (by decide) (by decide) hv18 ⟨by decide, by decide⟩ ?_
  obtain ⟨v19, hv19, hm⟩ := Option.bind_eq_some_iff.mp hm
  refine j_pF (ty := aY_M 10) G d_M_init_76 fl_M_35 ac_M (aw_T_of_M 10 (by decide) rfl) rfl rfl (by rintro _ _ _ ⟨⟩; exact wd_4_23) (aw_nA _ _) (aw_fA _ _) hv19 ?_
  refine j_aload_n G d_M_init_79 rfl ?_
  refine j_sipush (v := 144) G d_M_init_80 (by decide) ?_
  obtain ⟨v20, hv20, hm⟩ := Option.bind_eq_some_iff.mp hm
  refine j_newa (t := 1) (N := 144) (ty := .int) (a0 := (144, .inl (fun _ => 0))) G d_M_init_83 wd_4_101 rfl ((G.K.1.2 1 _ rfl).2) (fun cA => by rw [vp_cell_i]; rfl) (by decide) (by decide) (by decide) hv20 ⟨by decide, by decide⟩ ?_
  obtain ⟨v21, hv21, hm⟩ := Option.bind_eq_some_iff.mp hm
  refine j_pF (ty := aY_M 11) G d_M_init_85 fl_M_38 ac_M (aw_T_of_M 11 (by decide) rfl) rfl rfl (by rintro _ _ _ ⟨⟩; exact wd_4_24) (aw_nA _ _) (aw_fA _ _) hv21 ?_
  refine j_aload_n G d_M_init_88 rfl ?_
  refine j_sipush (v := 144) G d_M_init_89 (by decide) ?_
  obtain ⟨v22, hv22, hm⟩ := Option.bind_eq_some_iff.mp hm
  refine j_newa (t := 1) (N := 144) (ty := .int) (a0 := (144, .inl (fun _ => 0))) G d_M_init_92 wd_4_101 rfl ((G.K.1.2 1 _ rfl).2) (fun cA => by rw [vp_cell_i]; rfl) (by decide) (by decide) (by decide) hv22 ⟨by decide, by decide⟩ ?_
  obtain ⟨v23, hv23, hm⟩ := Option.bind_eq_some_iff.mp hm
  refine j_pF (ty := aY_M 12) G d_M_init_94 fl_M_41 ac_M (aw_T_of_M 12 (by decide) rfl) rfl rfl (by rintro _ _ _ ⟨⟩; exact wd_4_25) (aw_nA _ _) (aw_fA _ _) hv23 ?_
  refine j_aload_n G d_M_init_97 rfl ?_
  refine j_sipush (v := 144) G d_M_init_98 (by decide) ?_
  obtain ⟨v24, hv24, hm⟩ := Option.bind_eq_some_iff.mp hm
  refine j_newa (t := 1) (N := 144) (ty := .int) (a0 := (144, .inl (fun _ => 0))) G d_M_init_101 wd_4_101 rfl ((G.K.1.2 1 _ rfl).2) (fun cA => by rw [vp_cell_i]; rfl) (by decide) (by decide) (by decide) hv24 ⟨by decide, by decide⟩ ?_
  obtain ⟨v25, hv25, hm⟩ := Option.bind_eq_some_iff.mp hm
  refine j_pF (ty := aY_M 13) G d_M_init_103 fl_M_44 ac_M (aw_T_of_M 13 (by decide) rfl) rfl rfl (by rintro _ _ _ ⟨⟩; exact wd_4_26) (aw_nA _ _) (aw_fA _ _) hv25 ?_
  refine j_aload_n G d_M_init_106 rfl ?_
  refine j_sipush (v := 144) G d_M_init_107 (by decide) ?_
  obtain ⟨v26, hv26, hm⟩ := Option.bind_eq_some_iff.mp hm
  refine j_newa (t := 1) (N := 144) (ty := .int) (a0 := (144, .inl (fun _ => 0))) G d_M_init_110 wd_4_101 rfl ((G.K.1.2 1 _ rfl).2) (fun cA => by rw [vp_cell_i]; rfl) (by decide) (by decide) (by decide) hv26 ⟨by decide, by decide⟩ ?_
  obtain ⟨v27, hv27, hm⟩ := Option.bind_eq_some_iff.mp hm
  refine j_pF (ty := aY_M 14) G d_M_init_112 fl_M_47 ac_M (aw_T_of_M 14 (by decide) rfl) rfl rfl (by rintro _ _ _ ⟨⟩; exact wd_4_27) (aw_nA _ _) (aw_fA _ _) hv27 ?_
  refine j_aload_n G d_M_init_115 rfl ?_
  refine j_bipush (v := 80) G d_M_init_116 (by decide) ?_
  obtain ⟨v28, hv28, hm⟩ := Option.bind_eq_some_iff.mp hm
  refine j_newa (t := 2) (N := 80) (ty := .long) (a0 := (80, .inr (.inl (fun _ => 0)))) G d_M_init_118 wd_4_103 rfl ((G.K.1.2 2 _ rfl).2) (fun cA => by rw [vp_cell_l]; rfl) (by decide) (by decide) (by decide) hv28 ⟨by decide, by decide⟩ ?_
  obtain ⟨v29, hv29, hm⟩ := Option.bind_eq_some_iff.mp hm
  refine j_pF (ty := aY_M 16) G d_M_init_120 fl_M_50 ac_M (aw_T_of_M 16 (by decide) rfl) rfl rfl (by rintro _ _ _ ⟨⟩; exact wd_4_29) (aw_nA _ _) (aw_fA _ _) hv29 ?_
  refine j_aload_n G d_M_init_123 rfl ?_
  refine j_bipush (v := 80) G d_M_init_124 (by decide) ?_
  obtain ⟨v30, hv30, hm⟩ := Option.bind_eq_some_iff.mp hm
  refine j_newa (t := 1) (N := 80) (ty := .int) (a0 := (80, .inl (fun _ => 0))) G d_M_init_126 wd_4_101 rfl ((G.K.1.2 1 _ rfl).2) (fun cA => by rw [vp_cell_i]; rfl) (by decide) (by decide) (by decide) hv30 ⟨by decide, by decide⟩ ?_
  obtain ⟨v31, hv31, hm⟩ := Option.bind_eq_some_iff.mp hm
  refine j_pF (ty := aY_M 17) G d_M_init_128 fl_M_54 ac_M (aw_T_of_M 17 (by decide) rfl) rfl rfl (by rintro _ _ _ ⟨⟩; exact wd_4_30) (aw_nA _ _) (aw_fA _ _) hv31 ?_
  refine j_aload_n G d_M_init_131 rfl ?_
  refine j_bipush (v := 80) G d_M_init_132 (by decide) ?_
  obtain ⟨v32, hv32, hm⟩ := Option.bind_eq_some_iff.mp hm
  refine j_newa (t := 1) (N := 80) (ty := .int) (a0 := (80, .inl (fun _ => 0))) G d_M_init_134 wd_4_101 rfl ((G.K.1.2 1 _ rfl).2) (fun cA => by rw [vp_cell_i]; rfl) (by decide) (by decide) (by decide) hv32 ⟨by decide, by decide⟩ ?_
  obtain ⟨v33, hv33, hm⟩ := Option.bind_eq_some_iff.mp hm
  refine j_pF (ty := aY_M 18) G d_M_init_136 fl_M_57 ac_M (aw_T_of_M 18 (by decide) rfl) rfl rfl (by rintro _ _ _ ⟨⟩; exact wd_4_31) (aw_nA _ _) (aw_fA _ _) hv33 ?_
  refine j_aload_n G d_M_init_139 rfl ?_
  refine j_bipush (v := 80) G d_M_init_140 (by decide) ?_
  obtain ⟨v34, hv34, hm⟩ := Option.bind_eq_some_iff.mp hm
  refine j_newa (t := 1) (N := 80) (ty := .int) (a0 := (80, .inl (fun _ => 0))) G d_M_init_142 wd_4_101 rfl ((G.K.1.2 1 _ rfl).2) (fun cA => by rw [vp_cell_i]; rfl) (by decide) (by decide) (by decide) hv34 ⟨by decide, by decide⟩ ?_
  obtain ⟨v35, hv35, hm⟩ := Option.bind_eq_some_iff.mp hm
  refine j_pF (ty := aY_M 19) G d_M_init_144 fl_M_60 ac_M (aw_T_of_M 19 (by decide) rfl) rfl rfl (by rintro _ _ _ ⟨⟩; exact wd_4_32) (aw_nA _ _) (aw_fA _ _) hv35 ?_
  obtain rfl := Option.some.inj hm
  exact j_vret G E d_M_init_147 ⟨by decide, by decide⟩ ⟨rfl, rfl⟩
noncomputable def f_M_thrown (w : aw_W) (o : Option Nat) : Option (Int32) :=
  (aw_gI w o 7 0).bind fun v1 =>
  some v1
abbrev rm_M_thrown : Room := { frames := 0, cells := 0, slots := 0, locals := 0 }
set_option maxRecDepth 100000 in
set_option maxHeartbeats 4000000 in
theorem c_M_thrown (l : Launch) (hl : l.stackTraces = false) (D : va_G) (dA : Nat → ClassId) (base : Nat) (w : aw_W) (o : Option Nat) (r : Int32) (hm : f_M_thrown w o = some r) : aj_Ct l D dA base m_M_thrown rm_M_thrown [aRf o] w (fun v w' => some (aI r) = v ∧ w = w') := by
  refine aj_enter hl (by decide) (Nat.le_of_ble_eq_true rfl) ?_
  intro Γ G E
  unfold f_M_thrown at hm
  refine j_aload_n G d_M_thrown_0 rfl ?_
  obtain ⟨v1, hv1, hm⟩ := Option.bind_eq_some_iff.mp hm
  refine j_gI G d_M_thrown_1 fl_M_63 hv1 ?_
  obtain rfl := Option.some.inj hm
  exact j_iret G E d_M_thrown_4 ⟨by decide, by decide⟩ ⟨rfl, rfl⟩
noncomputable def f_M_in (w : aw_W) (p1 : Int32) (p2 : Int32) (p3 : Int32) : Option (Int32) :=
  (if p1 < p2 then
      some (0 : Int32)
    else
      if p3 < p1 then
        some (0 : Int32)
      else
        some (1 : Int32) : Option (Int32)).bind fun j1 =>
  (aw_zz j1).bind fun v2 =>
  some j1
abbrev rm_M_in : Room := { frames := 0, cells := 0, slots := 0, locals := 0 }
set_option maxRecDepth 100000 in
set_option maxHeartbeats 4000000 in
theorem c_M_in (l : Launch) (hl : l.stackTraces = false) (D : va_G) (dA : Nat → ClassId) (base : Nat) (w : aw_W) (p1 : Int32) (p2 : Int32) (p3 : Int32) (r : Int32) (hm : f_M_in w p1 p2 p3 = some r) : aj_Ct l D dA base m_M_in rm_M_in [aI p1, aI p2, aI p3] w (fun v w' => some (aI r) = v ∧ w = w') := by
  refine aj_enter hl (by decide) (Nat.le_of_ble_eq_true rfl) ?_
  intro Γ G E
  unfold f_M_in at hm
  refine j_iload_n G d_M_in_0 rfl ?_
  refine j_iload_n G d_M_in_1 rfl ?_
  obtain ⟨j1, hj1, ho1⟩ := Option.bind_eq_some_iff.mp hm
  clear hm
  have hJ1 : aj_J Γ 3 (0, 0) 15 [] [aI j1] w := by
    clear hj1
    have hm := ho1
    clear ho1
    obtain ⟨v2, hv2, hm⟩ := Option.bind_eq_some_iff.mp hm
    obtain rfl := Option.some.inj hm
    exact j_zret G E d_M_in_15 ⟨by decide, by decide⟩ (aw_zz_some hv2) ⟨rfl, rfl⟩
  clear ho1
  have hm := hj1
  clear hj1
  refine j_icmp_lt (tgt := 14) G d_M_in_2 rfl (fun hc => ?_) (fun hc => ?_)
  · rw [if_pos hc] at hm
    refine j_iconst (v := 0) G d_M_in_14 (by decide) ?_
    obtain rfl := Option.some.inj hm
    refine j_lv [] rfl ?_
    exact hJ1
  · rw [if_neg hc] at hm
    refine j_iload_n G d_M_in_5 rfl ?_
    refine j_iload_n G d_M_in_6 rfl ?_
    refine j_icmp_gt (tgt := 14) G d_M_in_7 rfl (fun hc => ?_) (fun hc => ?_)
    · rw [if_pos hc] at hm
      refine j_iconst (v := 0) G d_M_in_14 (by decide) ?_
      obtain rfl := Option.some.inj hm
      refine j_lv [] rfl ?_
      exact hJ1
    · rw [if_neg hc] at hm
      refine j_iconst (v := 1) G d_M_in_10 (by decide) ?_
      refine j_goto (tgt := 15) G d_M_in_11 rfl ?_
      obtain rfl := Option.some.inj hm
      refine j_lv [] rfl ?_
      exact hJ1
noncomputable def f_M_fail (w : aw_W) (o : Option Nat) (p1 : Int32) : Option (Int32 × aw_W) :=
  (aw_pV w o 7 0 (.int p1)).bind fun v1 =>
  some ((0 : Int32), v1)
abbrev rm_M_fail : Room := { frames := 0, cells := 0, slots := 0, locals := 0 }
set_option maxRecDepth 100000 in
set_option maxHeartbeats 4000000 in
theorem c_M_fail (l : Launch) (hl : l.stackTraces = false) (D : va_G) (dA : Nat → ClassId) (base : Nat) (w : aw_W) (o : Option Nat) (p1 : Int32) (r : Int32 × aw_W) (hm : f_M_fail w o p1 = some r) : aj_Ct l D dA base m_M_fail rm_M_fail [aRf o, aI p1] w (fun v w' => some (aI r.1) = v ∧ r.2 = w') := by
  refine aj_enter hl (by decide) (Nat.le_of_ble_eq_true rfl) ?_
  intro Γ G E
  unfold f_M_fail at hm
  refine j_aload_n G d_M_fail_0 rfl ?_
  refine j_iload_n G d_M_fail_1 rfl ?_
  obtain ⟨v1, hv1, hm⟩ := Option.bind_eq_some_iff.mp hm
  refine j_pV (ty := aY_M 0) G d_M_fail_2 fl_M_63 ac_M (aw_T_of_M 0 (by decide) rfl) rfl rfl hv1 ?_
  refine j_iconst (v := 0) G d_M_fail_5 (by decide) ?_
  obtain rfl := Option.some.inj hm
  exact j_iret G E d_M_fail_6 ⟨by decide, by decide⟩ ⟨rfl, rfl⟩
noncomputable def f_M_summed (w : aw_W) (p1 : Int64) (p2 : Int32) : Option (Int64) :=
  (aw_wh (σ := Int64 × Int32) (τ := Int64 × Int32) (fun s1 =>
    if (8 : Int32) ≤ s1.2 then
      some (.inr (s1.1, s1.2))
    else
      (if (lg_cmp (s1.1 - s1.1 / (2 : Int64) * (2 : Int64)) (1 : Int64)) = 0 then
          some ((s1.1 / (2 : Int64)) ^^^ (3988292384 : Int64))
        else
          some (s1.1 / (2 : Int64)) : Option (Int64)).bind fun j2 =>
      some (.inl (j2, s1.2 + 1))) (p1 ^^^ p2.toInt64, (0 : Int32))).bind fun e3 =>
  some e3.1
abbrev rm_M_summed : Room := { frames := 0, cells := 0, slots := 0, locals := 0 }
set_option maxRecDepth 100000 in
set_option maxHeartbeats 4000000 in
theorem c_M_summed (l : Launch) (hl : l.stackTraces = false) (D : va_G) (dA : Nat → ClassId) (base : Nat) (w : aw_W) (p1 : Int64) (p2 : Int32) (r : Int64) (hm : f_M_summed w p1 p2 = some r) : aj_Ct l D dA base m_M_summed rm_M_summed [aL p1, aI p2] w (fun v w' => some (aL r) = v ∧ w = w') := by
  refine aj_enter hl (by decide) (Nat.le_of_ble_eq_true rfl) ?_
  intro Γ G E
  unfold f_M_summed at hm
  refine j_lload_n G d_M_summed_0 rfl ?_
  refine j_iload_n G d_M_summed_1 rfl ?_
  refine j_i2l G d_M_summed_2 ?_
  refine j_lxor G d_M_summed_3 ?_
  refine j_lstore_n G d_M_summed_4 (by decide) ?_
  refine j_iconst (v := 0) G d_M_summed_5 (by decide) ?_
  refine j_istore G d_M_summed_6 (by decide) ?_
  obtain ⟨e1, he1, ho1⟩ := Option.bind_eq_some_iff.mp hm
  clear hm
  refine j_lv [(3, aL (p1 ^^^ p2.toInt64)), (5, aI (0 : Int32))] rfl ?_
  refine aw_wh_elim (fun (s : Int64 × Int32) => aj_J Γ 6 (0, 0) 8 [(3, aL s.1), (5, aI s.2)] [] w) ?_ he1
  intro s1 x1 hm hin1 hout1
  try dsimp only at hm ⊢
  refine j_iload G d_M_summed_8 rfl ?_
  refine j_bipush (v := 8) G d_M_summed_10 (by decide) ?_
  refine j_icmp_ge (tgt := 49) G d_M_summed_12 rfl (fun hc => ?_) (fun hc => ?_)
  · rw [if_pos hc] at hm
    have q1 := hout1 _ (Option.some.inj hm).symm
    clear hin1 hout1
    subst q1
    clear hm
    have hm := ho1
    clear ho1
    try dsimp only at hm
    refine j_lload_n G d_M_summed_49 rfl ?_
    obtain rfl := Option.some.inj hm
    exact j_lret G E d_M_summed_50 ⟨by decide, by decide⟩ ⟨rfl, rfl⟩
  · rw [if_neg hc] at hm
    refine j_lload_n G d_M_summed_15 rfl ?_
    refine j_ldc2 G d_M_summed_16 wd_4_150 ?_
    refine j_lrem G d_M_summed_19 (by decide) ?_
    refine j_lconst (v := 1) G d_M_summed_20 (by decide) ?_
    refine j_lcmp G d_M_summed_21 ?_
    obtain ⟨j2, hj2, ho2⟩ := Option.bind_eq_some_iff.mp hm
    clear hm
    have hJ2 : aj_J Γ 6 (0, 0) 42 [(5, aI s1.2)] [aL j2] w := by
      clear hj2
      have hm := ho2
      clear ho2
      refine j_lstore_n G d_M_summed_42 (by decide) ?_
      refine j_iinc (v := s1.2 + 1) G d_M_summed_43 rfl (by first | rfl | decide) (by decide) ?_
      refine j_goto (tgt := 8) G d_M_summed_46 rfl ?_
      refine j_lv [(3, aL j2), (5, aI (s1.2 + 1))] rfl ?_
      have z9 := hin1 _ (Option.some.inj hm).symm
      exact z9
    clear ho2
    have hm := hj2
    clear hj2
    refine j_if_ne (tgt := 37) G d_M_summed_22 rfl (fun hc => ?_) (fun hc => ?_)
    · rw [if_neg hc] at hm
      refine j_lload_n G d_M_summed_37 rfl ?_
      refine j_ldc2 G d_M_summed_38 wd_4_150 ?_
      refine j_ldiv G d_M_summed_41 (by decide) ?_
      obtain rfl := Option.some.inj hm
      refine j_lv [(5, aI s1.2)] rfl ?_
      exact hJ2
    · rw [if_pos hc] at hm
      refine j_lload_n G d_M_summed_25 rfl ?_
      refine j_ldc2 G d_M_summed_26 wd_4_150 ?_
      refine j_ldiv G d_M_summed_29 (by decide) ?_
      refine j_ldc2 G d_M_summed_30 wd_4_151 ?_
      refine j_lxor G d_M_summed_33 ?_
      refine j_goto (tgt := 42) G d_M_summed_34 rfl ?_
      obtain rfl := Option.some.inj hm
      refine j_lv [(5, aI s1.2)] rfl ?_
      exact hJ2
noncomputable def f_M_sumOf (w : aw_W) (p1 : Option Nat) (p2 : Int32) (p3 : Int32) : Option (Int64) :=
  (aw_wh (σ := Int64 × Int32) (τ := Int64 × Int32) (fun s1 =>
    if p3 ≤ s1.2 then
      some (.inr (s1.1, s1.2))
    else
      (aw_aI w p1 1 s1.2).bind fun v2 =>
      (f_M_summed w s1.1 v2).bind fun v3 =>
      some (.inl (v3, s1.2 + 1))) ((4294967295 : Int64), p2)).bind fun e4 =>
  some ((4294967295 : Int64) - e4.1)
abbrev rm_M_sumOf : Room := { frames := 1, cells := 0, slots := 0, locals := 25 }
set_option maxRecDepth 100000 in
set_option maxHeartbeats 4000000 in
theorem c_M_sumOf (l : Launch) (hl : l.stackTraces = false) (D : va_G) (dA : Nat → ClassId) (base : Nat) (w : aw_W) (p1 : Option Nat) (p2 : Int32) (p3 : Int32) (r : Int64) (hm : f_M_sumOf w p1 p2 p3 = some r) : aj_Ct l D dA base m_M_sumOf rm_M_sumOf [aRf p1, aI p2, aI p3] w (fun v w' => some (aL r) = v ∧ w = w') := by
  refine aj_enter hl (by decide) (Nat.le_of_ble_eq_true rfl) ?_
  intro Γ G E
  unfold f_M_sumOf at hm
  refine j_ldc2 G d_M_sumOf_0 wd_4_146 ?_
  refine j_lstore_n G d_M_sumOf_3 (by decide) ?_
  refine j_iload_n G d_M_sumOf_4 rfl ?_
  refine j_istore G d_M_sumOf_5 (by decide) ?_
  obtain ⟨e1, he1, ho1⟩ := Option.bind_eq_some_iff.mp hm
  clear hm
  refine j_lv [(0, aRf p1), (2, aI p3), (3, aL (4294967295 : Int64)), (5, aI p2)] rfl ?_
  refine aw_wh_elim (fun (s : Int64 × Int32) => aj_J Γ 6 (0, 0) 7 [(0, aRf p1), (2, aI p3), (3, aL s.1), (5, aI s.2)] [] w) ?_ he1
  intro s1 x1 hm hin1 hout1
  try dsimp only at hm ⊢
  refine j_iload G d_M_sumOf_7 rfl ?_
  refine j_iload_n G d_M_sumOf_9 rfl ?_
  refine j_icmp_ge (tgt := 28) G d_M_sumOf_10 rfl (fun hc => ?_) (fun hc => ?_)
  · rw [if_pos hc] at hm
    have q1 := hout1 _ (Option.some.inj hm).symm
    clear hin1 hout1
    subst q1
    clear hm
    have hm := ho1
    clear ho1
    try dsimp only at hm
    refine j_ldc2 G d_M_sumOf_28 wd_4_146 ?_
    refine j_lload_n G d_M_sumOf_31 rfl ?_
    refine j_lsub G d_M_sumOf_32 ?_
    obtain rfl := Option.some.inj hm
    exact j_lret G E d_M_sumOf_33 ⟨by decide, by decide⟩ ⟨rfl, rfl⟩
  · rw [if_neg hc] at hm
    refine j_lload_n G d_M_sumOf_13 rfl ?_
    refine j_aload_n G d_M_sumOf_14 rfl ?_
    refine j_iload G d_M_sumOf_15 rfl ?_
    obtain ⟨v2, hv2, hm⟩ := Option.bind_eq_some_iff.mp hm
    refine j_iald G d_M_sumOf_17 hv2 ?_
    obtain ⟨v3, hv3, hm⟩ := Option.bind_eq_some_iff.mp hm
    refine j_callS (As := [aL s1.1, aI v2]) G d_M_sumOf_18 (c_M_summed _ G.off _ _ _ _ _ _ _ hv3) mw_M_summed ms_M_summed lk_M_73 rfl rfl (Nat.le_of_ble_eq_true rfl) ⟨by decide, by decide⟩ ⟨by decide, by decide⟩ (fun v9 w9 hp => ?_)
    obtain ⟨rfl, rfl⟩ := hp
    refine j_lstore_n G d_M_sumOf_21 (by decide) ?_
    refine j_iinc (v := s1.2 + 1) G d_M_sumOf_22 rfl (by first | rfl | decide) (by decide) ?_
    refine j_goto (tgt := 7) G d_M_sumOf_25 rfl ?_
    refine j_lv [(0, aRf p1), (2, aI p3), (3, aL v3), (5, aI (s1.2 + 1))] rfl ?_
    have z9 := hin1 _ (Option.some.inj hm).symm
    exact z9
noncomputable def f_M_numberIn (w : aw_W) (p1 : Option Nat) (p2 : Int32) (p3 : Int32) : Option (Int64) :=
  (aw_wh (σ := Int64 × Int32) (τ := Int64 × Int32) (fun s1 =>
    if p3 ≤ s1.2 then
      some (.inr (s1.1, s1.2))
    else
      (aw_aI w p1 1 (p2 + s1.2)).bind fun v2 =>
      some (.inl ((s1.1 * (256 : Int64)) + v2.toInt64, s1.2 + 1))) ((0 : Int64), (0 : Int32))).bind fun e3 =>
  some e3.1
abbrev rm_M_numberIn : Room := { frames := 0, cells := 0, slots := 0, locals := 0 }
set_option maxRecDepth 100000 in
set_option maxHeartbeats 4000000 in
theorem c_M_numberIn (l : Launch) (hl : l.stackTraces = false) (D : va_G) (dA : Nat → ClassId) (base : Nat) (w : aw_W) (p1 : Option Nat) (p2 : Int32) (p3 : Int32) (r : Int64) (hm : f_M_numberIn w p1 p2 p3 = some r) : aj_Ct l D dA base m_M_numberIn rm_M_numberIn [aRf p1, aI p2, aI p3] w (fun v w' => some (aL r) = v ∧ w = w') := by
  refine aj_enter hl (by decide) (Nat.le_of_ble_eq_true rfl) ?_
  intro Γ G E
  unfold f_M_numberIn at hm
  refine j_lconst (v := 0) G d_M_numberIn_0 (by decide) ?_
  refine j_lstore_n G d_M_numberIn_1 (by decide) ?_
  refine j_iconst (v := 0) G d_M_numberIn_2 (by decide) ?_
  refine j_istore G d_M_numberIn_3 (by decide) ?_
  obtain ⟨e1, he1, ho1⟩ := Option.bind_eq_some_iff.mp hm
  clear hm
  refine j_lv [(0, aRf p1), (1, aI p2), (2, aI p3), (3, aL (0 : Int64)), (5, aI (0 : Int32))] rfl ?_
  refine aw_wh_elim (fun (s : Int64 × Int32) => aj_J Γ 6 (0, 0) 5 [(0, aRf p1), (1, aI p2), (2, aI p3), (3, aL s.1), (5, aI s.2)] [] w) ?_ he1
  intro s1 x1 hm hin1 hout1
  try dsimp only at hm ⊢
  refine j_iload G d_M_numberIn_5 rfl ?_
  refine j_iload_n G d_M_numberIn_7 rfl ?_
  refine j_icmp_ge (tgt := 31) G d_M_numberIn_8 rfl (fun hc => ?_) (fun hc => ?_)
  · rw [if_pos hc] at hm
    have q1 := hout1 _ (Option.some.inj hm).symm
    clear hin1 hout1
    subst q1
    clear hm
    have hm := ho1
    clear ho1
    try dsimp only at hm
    refine j_lload_n G d_M_numberIn_31 rfl ?_
    obtain rfl := Option.some.inj hm
    exact j_lret G E d_M_numberIn_32 ⟨by decide, by decide⟩ ⟨rfl, rfl⟩
  · rw [if_neg hc] at hm
    refine j_lload_n G d_M_numberIn_11 rfl ?_
    refine j_ldc2 G d_M_numberIn_12 wd_4_191 ?_
    refine j_lmul G d_M_numberIn_15 ?_
    refine j_aload_n G d_M_numberIn_16 rfl ?_
    refine j_iload_n G d_M_numberIn_17 rfl ?_
    refine j_iload G d_M_numberIn_18 rfl ?_
    refine j_iadd G d_M_numberIn_20 ?_
    obtain ⟨v2, hv2, hm⟩ := Option.bind_eq_some_iff.mp hm
    refine j_iald G d_M_numberIn_21 hv2 ?_
    refine j_i2l G d_M_numberIn_22 ?_
    refine j_ladd G d_M_numberIn_23 ?_
    refine j_lstore_n G d_M_numberIn_24 (by decide) ?_
    refine j_iinc (v := s1.2 + 1) G d_M_numberIn_25 rfl (by first | rfl | decide) (by decide) ?_
    refine j_goto (tgt := 5) G d_M_numberIn_28 rfl ?_
    refine j_lv [(0, aRf p1), (1, aI p2), (2, aI p3), (3, aL ((s1.1 * (256 : Int64)) + v2.toInt64)), (5, aI (s1.2 + 1))] rfl ?_
    have z9 := hin1 _ (Option.some.inj hm).symm
    exact z9
noncomputable def f_M_cut (w : aw_W) (p1 : Int64) (p2 : Int32) : Option (Int64) :=
  (aw_wh (σ := Int64 × Int32) (τ := Int64 × Int32) (fun s1 =>
    if s1.2 < 0 then
      some (.inr (s1.1, s1.2))
    else
      some (.inl ((aj_lshl s1.1 (8 : Int32)) ||| ((aj_lshr p1 ((8 : Int32) * s1.2)) &&& (255 : Int64)), s1.2 + (-1)))) ((0 : Int64), p2 - (1 : Int32))).bind fun e2 =>
  some e2.1
abbrev rm_M_cut : Room := { frames := 0, cells := 0, slots := 0, locals := 0 }
set_option maxRecDepth 100000 in
set_option maxHeartbeats 4000000 in
theorem c_M_cut (l : Launch) (hl : l.stackTraces = false) (D : va_G) (dA : Nat → ClassId) (base : Nat) (w : aw_W) (p1 : Int64) (p2 : Int32) (r : Int64) (hm : f_M_cut w p1 p2 = some r) : aj_Ct l D dA base m_M_cut rm_M_cut [aL p1, aI p2] w (fun v w' => some (aL r) = v ∧ w = w') := by
  refine aj_enter hl (by decide) (Nat.le_of_ble_eq_true rfl) ?_
  intro Γ G E
  unfold f_M_cut at hm
  refine j_lconst (v := 0) G d_M_cut_0 (by decide) ?_
  refine j_lstore_n G d_M_cut_1 (by decide) ?_
  refine j_iload_n G d_M_cut_2 rfl ?_
  refine j_iconst (v := 1) G d_M_cut_3 (by decide) ?_
  refine j_isub G d_M_cut_4 ?_
  refine j_istore G d_M_cut_5 (by decide) ?_
  obtain ⟨e1, he1, ho1⟩ := Option.bind_eq_some_iff.mp hm
  clear hm
  refine j_lv [(0, aL p1), (3, aL (0 : Int64)), (5, aI (p2 - (1 : Int32)))] rfl ?_
  refine aw_wh_elim (fun (s : Int64 × Int32) => aj_J Γ 6 (0, 0) 7 [(0, aL p1), (3, aL s.1), (5, aI s.2)] [] w) ?_ he1
  intro s1 x1 hm hin1 hout1
  try dsimp only at hm ⊢
  refine j_iload G d_M_cut_7 rfl ?_
  refine j_if_lt (tgt := 35) G d_M_cut_9 rfl (fun hc => ?_) (fun hc => ?_)
  · rw [if_pos hc] at hm
    have q1 := hout1 _ (Option.some.inj hm).symm
    clear hin1 hout1
    subst q1
    clear hm
    have hm := ho1
    clear ho1
    try dsimp only at hm
    refine j_lload_n G d_M_cut_35 rfl ?_
    obtain rfl := Option.some.inj hm
    exact j_lret G E d_M_cut_36 ⟨by decide, by decide⟩ ⟨rfl, rfl⟩
  · rw [if_neg hc] at hm
    refine j_lload_n G d_M_cut_12 rfl ?_
    refine j_bipush (v := 8) G d_M_cut_13 (by decide) ?_
    refine j_lshl G d_M_cut_15 ?_
    refine j_lload_n G d_M_cut_16 rfl ?_
    refine j_bipush (v := 8) G d_M_cut_17 (by decide) ?_
    refine j_iload G d_M_cut_19 rfl ?_
    refine j_imul G d_M_cut_21 ?_
    refine j_lshr G d_M_cut_22 ?_
    refine j_ldc2 G d_M_cut_23 wd_4_138 ?_
    refine j_land G d_M_cut_26 ?_
    refine j_lor G d_M_cut_27 ?_
    refine j_lstore_n G d_M_cut_28 (by decide) ?_
    refine j_iinc (v := s1.2 + (-1)) G d_M_cut_29 rfl (by first | rfl | decide) (by decide) ?_
    refine j_goto (tgt := 7) G d_M_cut_32 rfl ?_
    refine j_lv [(0, aL p1), (3, aL ((aj_lshl s1.1 (8 : Int32)) ||| ((aj_lshr p1 ((8 : Int32) * s1.2)) &&& (255 : Int64)))), (5, aI (s1.2 + (-1)))] rfl ?_
    have z9 := hin1 _ (Option.some.inj hm).symm
    exact z9
noncomputable def f_M_lengthOf (w : aw_W) (p1 : Int32) (p2 : Int32) : Option (Int32) :=
  (if p2 = (255 : Int32) then
      some (0 : Int32)
    else
      some p2 : Option (Int32)).bind fun j1 =>
  some (((8 : Int32) + p1) + j1)
abbrev rm_M_lengthOf : Room := { frames := 0, cells := 0, slots := 0, locals := 0 }
set_option maxRecDepth 100000 in
set_option maxHeartbeats 4000000 in
theorem c_M_lengthOf (l : Launch) (hl : l.stackTraces = false) (D : va_G) (dA : Nat → ClassId) (base : Nat) (w : aw_W) (p1 : Int32) (p2 : Int32) (r : Int32) (hm : f_M_lengthOf w p1 p2 = some r) : aj_Ct l D dA base m_M_lengthOf rm_M_lengthOf [aI p1, aI p2] w (fun v w' => some (aI r) = v ∧ w = w') := by
  refine aj_enter hl (by decide) (Nat.le_of_ble_eq_true rfl) ?_
  intro Γ G E
  unfold f_M_lengthOf at hm
  refine j_bipush (v := 8) G d_M_lengthOf_0 (by decide) ?_
  refine j_iload_n G d_M_lengthOf_2 rfl ?_
  refine j_iadd G d_M_lengthOf_3 ?_
  refine j_iload_n G d_M_lengthOf_4 rfl ?_
  refine j_sipush (v := 255) G d_M_lengthOf_5 (by decide) ?_
  obtain ⟨j1, hj1, ho1⟩ := Option.bind_eq_some_iff.mp hm
  clear hm
  have hJ1 : aj_J Γ 2 (0, 0) 16 [] [aI j1, aI ((8 : Int32) + p1)] w := by
    clear hj1
    have hm := ho1
    clear ho1
    refine j_iadd G d_M_lengthOf_16 ?_
    obtain rfl := Option.some.inj hm
    exact j_iret G E d_M_lengthOf_17 ⟨by decide, by decide⟩ ⟨rfl, rfl⟩
  clear ho1
  have hm := hj1
  clear hj1
  refine j_icmp_ne (tgt := 15) G d_M_lengthOf_8 rfl (fun hc => ?_) (fun hc => ?_)
  · rw [if_neg hc] at hm
    refine j_iload_n G d_M_lengthOf_15 rfl ?_
    obtain rfl := Option.some.inj hm
    refine j_lv [] rfl ?_
    exact hJ1
  · rw [if_pos hc] at hm
    refine j_iconst (v := 0) G d_M_lengthOf_11 (by decide) ?_
    refine j_goto (tgt := 16) G d_M_lengthOf_12 rfl ?_
    obtain rfl := Option.some.inj hm
    refine j_lv [] rfl ?_
    exact hJ1
noncomputable def f_M_length (w : aw_W) (o : Option Nat) (p1 : Int32) (p2 : Int32) : Option (Int32) :=
  (aw_gR w o 7 11).bind fun v1 =>
  (aw_aI w v1 1 (((12 : Int32) * p1) + p2)).bind fun v2 =>
  (aw_gR w o 7 12).bind fun v3 =>
  (aw_aI w v3 1 (((12 : Int32) * p1) + p2)).bind fun v4 =>
  (f_M_lengthOf w v2 v4).bind fun v5 =>
  some v5
abbrev rm_M_length : Room := { frames := 1, cells := 0, slots := 0, locals := 21 }
set_option maxRecDepth 100000 in
set_option maxHeartbeats 4000000 in
theorem c_M_length (l : Launch) (hl : l.stackTraces = false) (D : va_G) (dA : Nat → ClassId) (base : Nat) (w : aw_W) (o : Option Nat) (p1 : Int32) (p2 : Int32) (r : Int32) (hm : f_M_length w o p1 p2 = some r) : aj_Ct l D dA base m_M_length rm_M_length [aRf o, aI p1, aI p2] w (fun v w' => some (aI r) = v ∧ w = w') := by
  refine aj_enter hl (by decide) (Nat.le_of_ble_eq_true rfl) ?_
  intro Γ G E
  unfold f_M_length at hm
  refine j_aload_n G d_M_length_0 rfl ?_
  obtain ⟨v1, hv1, hm⟩ := Option.bind_eq_some_iff.mp hm
  refine j_gR G d_M_length_1 fl_M_38 hv1 ?_
  refine j_bipush (v := 12) G d_M_length_4 (by decide) ?_
  refine j_iload_n G d_M_length_6 rfl ?_
  refine j_imul G d_M_length_7 ?_
  refine j_iload_n G d_M_length_8 rfl ?_
  refine j_iadd G d_M_length_9 ?_
  obtain ⟨v2, hv2, hm⟩ := Option.bind_eq_some_iff.mp hm
  refine j_iald G d_M_length_10 hv2 ?_
  refine j_aload_n G d_M_length_11 rfl ?_
  obtain ⟨v3, hv3, hm⟩ := Option.bind_eq_some_iff.mp hm
  refine j_gR G d_M_length_12 fl_M_41 hv3 ?_
  refine j_bipush (v := 12) G d_M_length_15 (by decide) ?_
  refine j_iload_n G d_M_length_17 rfl ?_
  refine j_imul G d_M_length_18 ?_
  refine j_iload_n G d_M_length_19 rfl ?_
  refine j_iadd G d_M_length_20 ?_
  obtain ⟨v4, hv4, hm⟩ := Option.bind_eq_some_iff.mp hm
  refine j_iald G d_M_length_21 hv4 ?_
  obtain ⟨v5, hv5, hm⟩ := Option.bind_eq_some_iff.mp hm
  refine j_callS (As := [aI v2, aI v4]) G d_M_length_22 (c_M_lengthOf _ G.off _ _ _ _ _ _ _ hv5) mw_M_lengthOf ms_M_lengthOf lk_M_81 rfl rfl (Nat.le_of_ble_eq_true rfl) ⟨by decide, by decide⟩ ⟨by decide, by decide⟩ (fun v9 w9 hp => ?_)
  obtain ⟨rfl, rfl⟩ := hp
  obtain rfl := Option.some.inj hm
  exact j_iret G E d_M_length_25 ⟨by decide, by decide⟩ ⟨rfl, rfl⟩
noncomputable def f_M_note (w : aw_W) (o : Option Nat) (p1 : Int32) (p2 : Int32) (p3 : Int32) (p4 : Int32) : Option (aw_W) :=
  (aw_gR w o 7 9).bind fun v1 =>
  (aw_aI w v1 1 p1).bind fun v2 =>
  (aw_gR w o 7 10).bind fun v3 =>
  (aw_sI w v3 1 (((12 : Int32) * p1) + v2) p2).bind fun v4 =>
  (aw_gR v4 o 7 11).bind fun v5 =>
  (aw_sI v4 v5 1 (((12 : Int32) * p1) + v2) p3).bind fun v6 =>
  (aw_gR v6 o 7 12).bind fun v7 =>
  (aw_sI v6 v7 1 (((12 : Int32) * p1) + v2) p4).bind fun v8 =>
  (aw_gR v8 o 7 9).bind fun v9 =>
  (aw_aI v8 v9 1 p1).bind fun v10 =>
  (aw_sI v8 v9 1 p1 (v10 + (1 : Int32))).bind fun v11 =>
  some v11
abbrev rm_M_note : Room := { frames := 0, cells := 0, slots := 0, locals := 0 }
set_option maxRecDepth 100000 in
set_option maxHeartbeats 4000000 in
theorem c_M_note (l : Launch) (hl : l.stackTraces = false) (D : va_G) (dA : Nat → ClassId) (base : Nat) (w : aw_W) (o : Option Nat) (p1 : Int32) (p2 : Int32) (p3 : Int32) (p4 : Int32) (r : aw_W) (hm : f_M_note w o p1 p2 p3 p4 = some r) : aj_Ct l D dA base m_M_note rm_M_note [aRf o, aI p1, aI p2, aI p3, aI p4] w (fun v w' => none = v ∧ r = w') := by
  refine aj_enter hl (by decide) (Nat.le_of_ble_eq_true rfl) ?_
  intro Γ G E
  unfold f_M_note at hm
  refine j_bipush (v := 12) G d_M_note_0 (by decide) ?_
  refine j_iload_n G d_M_note_2 rfl ?_
  refine j_imul G d_M_note_3 ?_
  refine j_aload_n G d_M_note_4 rfl ?_
  obtain ⟨v1, hv1, hm⟩ := Option.bind_eq_some_iff.mp hm
  refine j_gR G d_M_note_5 fl_M_32 hv1 ?_
  refine j_iload_n G d_M_note_8 rfl ?_
  obtain ⟨v2, hv2, hm⟩ := Option.bind_eq_some_iff.mp hm
  refine j_iald G d_M_note_9 hv2 ?_
  refine j_iadd G d_M_note_10 ?_
  refine j_istore G d_M_note_11 (by decide) ?_
  refine j_aload_n G d_M_note_13 rfl ?_
  obtain ⟨v3, hv3, hm⟩ := Option.bind_eq_some_iff.mp hm
  refine j_gR G d_M_note_14 fl_M_35 hv3 ?_
  refine j_iload G d_M_note_17 rfl ?_
  refine j_iload_n G d_M_note_19 rfl ?_
  obtain ⟨v4, hv4, hm⟩ := Option.bind_eq_some_iff.mp hm
  refine j_iast G d_M_note_20 hv4 ?_
  refine j_aload_n G d_M_note_21 rfl ?_
  obtain ⟨v5, hv5, hm⟩ := Option.bind_eq_some_iff.mp hm
  refine j_gR G d_M_note_22 fl_M_38 hv5 ?_
  refine j_iload G d_M_note_25 rfl ?_
  refine j_iload_n G d_M_note_27 rfl ?_
  obtain ⟨v6, hv6, hm⟩ := Option.bind_eq_some_iff.mp hm
  refine j_iast G d_M_note_28 hv6 ?_
  refine j_aload_n G d_M_note_29 rfl ?_
  obtain ⟨v7, hv7, hm⟩ := Option.bind_eq_some_iff.mp hm
  refine j_gR G d_M_note_30 fl_M_41 hv7 ?_
  refine j_iload G d_M_note_33 rfl ?_
  refine j_iload G d_M_note_35 rfl ?_
  obtain ⟨v8, hv8, hm⟩ := Option.bind_eq_some_iff.mp hm
  refine j_iast G d_M_note_37 hv8 ?_
  refine j_aload_n G d_M_note_38 rfl ?_
  obtain ⟨v9, hv9, hm⟩ := Option.bind_eq_some_iff.mp hm
  refine j_gR G d_M_note_39 fl_M_32 hv9 ?_
  refine j_iload_n G d_M_note_42 rfl ?_
  refine j_dup2_11 G d_M_note_43 rfl rfl ?_
  obtain ⟨v10, hv10, hm⟩ := Option.bind_eq_some_iff.mp hm
  refine j_iald G d_M_note_44 hv10 ?_
  refine j_iconst (v := 1) G d_M_note_45 (by decide) ?_
  refine j_iadd G d_M_note_46 ?_
  obtain ⟨v11, hv11, hm⟩ := Option.bind_eq_some_iff.mp hm
  refine j_iast G d_M_note_47 hv11 ?_
  obtain rfl := Option.some.inj hm
  exact j_vret G E d_M_note_48 ⟨by decide, by decide⟩ ⟨rfl, rfl⟩
noncomputable def f_M_clearRow (w : aw_W) (o : Option Nat) (p1 : Int32) : Option (aw_W) :=
  (aw_gR w o 7 3).bind fun v1 =>
  (aw_sI w v1 1 p1 (0 : Int32)).bind fun v2 =>
  (aw_gR v2 o 7 4).bind fun v3 =>
  (aw_sI v2 v3 1 p1 (0 : Int32)).bind fun v4 =>
  (aw_gR v4 o 7 6).bind fun v5 =>
  (aw_sI v4 v5 3 p1 (0 : Int32)).bind fun v6 =>
  (aw_gR v6 o 7 9).bind fun v7 =>
  (aw_sI v6 v7 1 p1 (0 : Int32)).bind fun v8 =>
  some v8
abbrev rm_M_clearRow : Room := { frames := 0, cells := 0, slots := 0, locals := 0 }
set_option maxRecDepth 100000 in
set_option maxHeartbeats 4000000 in
theorem c_M_clearRow (l : Launch) (hl : l.stackTraces = false) (D : va_G) (dA : Nat → ClassId) (base : Nat) (w : aw_W) (o : Option Nat) (p1 : Int32) (r : aw_W) (hm : f_M_clearRow w o p1 = some r) : aj_Ct l D dA base m_M_clearRow rm_M_clearRow [aRf o, aI p1] w (fun v w' => none = v ∧ r = w') := by
  refine aj_enter hl (by decide) (Nat.le_of_ble_eq_true rfl) ?_
  intro Γ G E
  unfold f_M_clearRow at hm
  refine j_aload_n G d_M_clearRow_0 rfl ?_
  obtain ⟨v1, hv1, hm⟩ := Option.bind_eq_some_iff.mp hm
  refine j_gR G d_M_clearRow_1 fl_M_13 hv1 ?_
  refine j_iload_n G d_M_clearRow_4 rfl ?_
  refine j_iconst (v := 0) G d_M_clearRow_5 (by decide) ?_
  obtain ⟨v2, hv2, hm⟩ := Option.bind_eq_some_iff.mp hm
  refine j_iast G d_M_clearRow_6 hv2 ?_
  refine j_aload_n G d_M_clearRow_7 rfl ?_
  obtain ⟨v3, hv3, hm⟩ := Option.bind_eq_some_iff.mp hm
  refine j_gR G d_M_clearRow_8 fl_M_16 hv3 ?_
  refine j_iload_n G d_M_clearRow_11 rfl ?_
  refine j_iconst (v := 0) G d_M_clearRow_12 (by decide) ?_
  obtain ⟨v4, hv4, hm⟩ := Option.bind_eq_some_iff.mp hm
  refine j_iast G d_M_clearRow_13 hv4 ?_
  refine j_aload_n G d_M_clearRow_14 rfl ?_
  obtain ⟨v5, hv5, hm⟩ := Option.bind_eq_some_iff.mp hm
  refine j_gR G d_M_clearRow_15 fl_M_22 hv5 ?_
  refine j_iload_n G d_M_clearRow_18 rfl ?_
  refine j_iconst (v := 0) G d_M_clearRow_19 (by decide) ?_
  obtain ⟨v6, hv6, hm⟩ := Option.bind_eq_some_iff.mp hm
  refine j_zast G d_M_clearRow_20 (by decide) hv6 ?_
  refine j_aload_n G d_M_clearRow_21 rfl ?_
  obtain ⟨v7, hv7, hm⟩ := Option.bind_eq_some_iff.mp hm
  refine j_gR G d_M_clearRow_22 fl_M_32 hv7 ?_
  refine j_iload_n G d_M_clearRow_25 rfl ?_
  refine j_iconst (v := 0) G d_M_clearRow_26 (by decide) ?_
  obtain ⟨v8, hv8, hm⟩ := Option.bind_eq_some_iff.mp hm
  refine j_iast G d_M_clearRow_27 hv8 ?_
  obtain rfl := Option.some.inj hm
  exact j_vret G E d_M_clearRow_28 ⟨by decide, by decide⟩ ⟨rfl, rfl⟩
noncomputable def f_M_copyRow (w : aw_W) (o : Option Nat) (p1 : Int32) (p2 : Int32) : Option (aw_W) :=
  (aw_gR w o 7 2).bind fun v1 =>
  (aw_gR w o 7 2).bind fun v2 =>
  (aw_aI w v2 1 p1).bind fun v3 =>
  (aw_sI w v1 1 p2 v3).bind fun v4 =>
  (aw_gR v4 o 7 3).bind fun v5 =>
  (aw_gR v4 o 7 3).bind fun v6 =>
  (aw_aI v4 v6 1 p1).bind fun v7 =>
  (aw_sI v4 v5 1 p2 v7).bind fun v8 =>
  (aw_gR v8 o 7 4).bind fun v9 =>
  (aw_gR v8 o 7 4).bind fun v10 =>
  (aw_aI v8 v10 1 p1).bind fun v11 =>
  (aw_sI v8 v9 1 p2 v11).bind fun v12 =>
  (aw_gR v12 o 7 6).bind fun v13 =>
  (aw_gR v12 o 7 6).bind fun v14 =>
  (aw_aI v12 v14 3 p1).bind fun v15 =>
  (aw_zz v15).bind fun v16 =>
  (aw_sI v12 v13 3 p2 v15).bind fun v17 =>
  (aw_gR v17 o 7 7).bind fun v18 =>
  (aw_gR v17 o 7 7).bind fun v19 =>
  (aw_aI v17 v19 1 p1).bind fun v20 =>
  (aw_sI v17 v18 1 p2 v20).bind fun v21 =>
  (aw_gR v21 o 7 9).bind fun v22 =>
  (aw_gR v21 o 7 9).bind fun v23 =>
  (aw_aI v21 v23 1 p1).bind fun v24 =>
  (aw_sI v21 v22 1 p2 v24).bind fun v25 =>
  (aw_wh (σ := Int32 × aw_W) (τ := Int32 × aw_W) (fun s26 =>
    if (100 : Int32) ≤ s26.1 then
      some (.inr (s26.1, s26.2))
    else
      (aw_gR s26.2 o 7 5).bind fun v27 =>
      (aw_gR s26.2 o 7 5).bind fun v28 =>
      (aw_aI s26.2 v28 1 (((100 : Int32) * p1) + s26.1)).bind fun v29 =>
      (aw_sI s26.2 v27 1 (((100 : Int32) * p2) + s26.1) v29).bind fun v30 =>
      some (.inl (s26.1 + 1, v30))) ((0 : Int32), v25)).bind fun e31 =>
  (aw_wh (σ := Int32 × aw_W) (τ := Int32 × aw_W) (fun s32 =>
    if (120 : Int32) ≤ s32.1 then
      some (.inr (s32.1, s32.2))
    else
      (aw_gR s32.2 o 7 8).bind fun v33 =>
      (aw_gR s32.2 o 7 8).bind fun v34 =>
      (aw_aI s32.2 v34 1 (((120 : Int32) * p1) + s32.1)).bind fun v35 =>
      (aw_sI s32.2 v33 1 (((120 : Int32) * p2) + s32.1) v35).bind fun v36 =>
      some (.inl (s32.1 + 1, v36))) ((0 : Int32), e31.2)).bind fun e37 =>
  (aw_wh (σ := Int32 × aw_W) (τ := Int32 × aw_W) (fun s38 =>
    if (12 : Int32) ≤ s38.1 then
      some (.inr (s38.1, s38.2))
    else
      (aw_gR s38.2 o 7 10).bind fun v39 =>
      (aw_gR s38.2 o 7 10).bind fun v40 =>
      (aw_aI s38.2 v40 1 (((12 : Int32) * p1) + s38.1)).bind fun v41 =>
      (aw_sI s38.2 v39 1 (((12 : Int32) * p2) + s38.1) v41).bind fun v42 =>
      (aw_gR v42 o 7 11).bind fun v43 =>
      (aw_gR v42 o 7 11).bind fun v44 =>
      (aw_aI v42 v44 1 (((12 : Int32) * p1) + s38.1)).bind fun v45 =>
      (aw_sI v42 v43 1 (((12 : Int32) * p2) + s38.1) v45).bind fun v46 =>
      (aw_gR v46 o 7 12).bind fun v47 =>
      (aw_gR v46 o 7 12).bind fun v48 =>
      (aw_aI v46 v48 1 (((12 : Int32) * p1) + s38.1)).bind fun v49 =>
      (aw_sI v46 v47 1 (((12 : Int32) * p2) + s38.1) v49).bind fun v50 =>
      some (.inl (s38.1 + 1, v50))) ((0 : Int32), e37.2)).bind fun e51 =>
  some e51.2
abbrev rm_M_copyRow : Room := { frames := 0, cells := 0, slots := 0, locals := 0 }
set_option maxRecDepth 100000 in
set_option maxHeartbeats 4000000 in
theorem c_M_copyRow (l : Launch) (hl : l.stackTraces = false) (D : va_G) (dA : Nat → ClassId) (base : Nat) (w : aw_W) (o : Option Nat) (p1 : Int32) (p2 : Int32) (r : aw_W) (hm : f_M_copyRow w o p1 p2 = some r) : aj_Ct l D dA base m_M_copyRow rm_M_copyRow [aRf o, aI p1, aI p2] w (fun v w' => none = v ∧ r = w') := by
  refine aj_enter hl (by decide) (Nat.le_of_ble_eq_true rfl) ?_
  intro Γ G E
  unfold f_M_copyRow at hm
  refine j_aload_n G d_M_copyRow_0 rfl ?_
  obtain ⟨v1, hv1, hm⟩ := Option.bind_eq_some_iff.mp hm
  refine j_gR G d_M_copyRow_1 fl_M_7 hv1 ?_
  refine j_iload_n G d_M_copyRow_4 rfl ?_
  refine j_aload_n G d_M_copyRow_5 rfl ?_
  obtain ⟨v2, hv2, hm⟩ := Option.bind_eq_some_iff.mp hm
  refine j_gR G d_M_copyRow_6 fl_M_7 hv2 ?_
  refine j_iload_n G d_M_copyRow_9 rfl ?_
  obtain ⟨v3, hv3, hm⟩ := Option.bind_eq_some_iff.mp hm
  refine j_iald G d_M_copyRow_10 hv3 ?_
  obtain ⟨v4, hv4, hm⟩ := Option.bind_eq_some_iff.mp hm
  refine j_iast G d_M_copyRow_11 hv4 ?_
  refine j_aload_n G d_M_copyRow_12 rfl ?_
  obtain ⟨v5, hv5, hm⟩ := Option.bind_eq_some_iff.mp hm
  refine j_gR G d_M_copyRow_13 fl_M_13 hv5 ?_
  refine j_iload_n G d_M_copyRow_16 rfl ?_
  refine j_aload_n G d_M_copyRow_17 rfl ?_
  obtain ⟨v6, hv6, hm⟩ := Option.bind_eq_some_iff.mp hm
  refine j_gR G d_M_copyRow_18 fl_M_13 hv6 ?_
  refine j_iload_n G d_M_copyRow_21 rfl ?_
  obtain ⟨v7, hv7, hm⟩ := Option.bind_eq_some_iff.mp hm
  refine j_iald G d_M_copyRow_22 hv7 ?_
  obtain ⟨v8, hv8, hm⟩ := Option.bind_eq_some_iff.mp hm
  refine j_iast G d_M_copyRow_23 hv8 ?_
  refine j_aload_n G d_M_copyRow_24 rfl ?_
  obtain ⟨v9, hv9, hm⟩ := Option.bind_eq_some_iff.mp hm
  refine j_gR G d_M_copyRow_25 fl_M_16 hv9 ?_
  refine j_iload_n G d_M_copyRow_28 rfl ?_
  refine j_aload_n G d_M_copyRow_29 rfl ?_
  obtain ⟨v10, hv10, hm⟩ := Option.bind_eq_some_iff.mp hm
  refine j_gR G d_M_copyRow_30 fl_M_16 hv10 ?_
  refine j_iload_n G d_M_copyRow_33 rfl ?_
  obtain ⟨v11, hv11, hm⟩ := Option.bind_eq_some_iff.mp hm
  refine j_iald G d_M_copyRow_34 hv11 ?_
  obtain ⟨v12, hv12, hm⟩ := Option.bind_eq_some_iff.mp hm
  refine j_iast G d_M_copyRow_35 hv12 ?_
  refine j_aload_n G d_M_copyRow_36 rfl ?_
  obtain ⟨v13, hv13, hm⟩ := Option.bind_eq_some_iff.mp hm
  refine j_gR G d_M_copyRow_37 fl_M_22 hv13 ?_
  refine j_iload_n G d_M_copyRow_40 rfl ?_
  refine j_aload_n G d_M_copyRow_41 rfl ?_
  obtain ⟨v14, hv14, hm⟩ := Option.bind_eq_some_iff.mp hm
  refine j_gR G d_M_copyRow_42 fl_M_22 hv14 ?_
  refine j_iload_n G d_M_copyRow_45 rfl ?_
  obtain ⟨v15, hv15, hm⟩ := Option.bind_eq_some_iff.mp hm
  refine j_zald G d_M_copyRow_46 hv15 ?_
  obtain ⟨v16, hv16, hm⟩ := Option.bind_eq_some_iff.mp hm
  obtain ⟨v17, hv17, hm⟩ := Option.bind_eq_some_iff.mp hm
  refine j_zast G d_M_copyRow_47 (aw_zz_some hv16) hv17 ?_
  refine j_aload_n G d_M_copyRow_48 rfl ?_
  obtain ⟨v18, hv18, hm⟩ := Option.bind_eq_some_iff.mp hm
  refine j_gR G d_M_copyRow_49 fl_M_26 hv18 ?_
  refine j_iload_n G d_M_copyRow_52 rfl ?_
  refine j_aload_n G d_M_copyRow_53 rfl ?_
  obtain ⟨v19, hv19, hm⟩ := Option.bind_eq_some_iff.mp hm
  refine j_gR G d_M_copyRow_54 fl_M_26 hv19 ?_
  refine j_iload_n G d_M_copyRow_57 rfl ?_
  obtain ⟨v20, hv20, hm⟩ := Option.bind_eq_some_iff.mp hm
  refine j_iald G d_M_copyRow_58 hv20 ?_
  obtain ⟨v21, hv21, hm⟩ := Option.bind_eq_some_iff.mp hm
  refine j_iast G d_M_copyRow_59 hv21 ?_
  refine j_aload_n G d_M_copyRow_60 rfl ?_
  obtain ⟨v22, hv22, hm⟩ := Option.bind_eq_some_iff.mp hm
  refine j_gR G d_M_copyRow_61 fl_M_32 hv22 ?_
  refine j_iload_n G d_M_copyRow_64 rfl ?_
  refine j_aload_n G d_M_copyRow_65 rfl ?_
  obtain ⟨v23, hv23, hm⟩ := Option.bind_eq_some_iff.mp hm
  refine j_gR G d_M_copyRow_66 fl_M_32 hv23 ?_
  refine j_iload_n G d_M_copyRow_69 rfl ?_
  obtain ⟨v24, hv24, hm⟩ := Option.bind_eq_some_iff.mp hm
  refine j_iald G d_M_copyRow_70 hv24 ?_
  obtain ⟨v25, hv25, hm⟩ := Option.bind_eq_some_iff.mp hm
  refine j_iast G d_M_copyRow_71 hv25 ?_
  refine j_iconst (v := 0) G d_M_copyRow_72 (by decide) ?_
  refine j_istore_n G d_M_copyRow_73 (by decide) ?_
  obtain ⟨e26, he26, ho26⟩ := Option.bind_eq_some_iff.mp hm
  clear hm
  refine j_lv [(0, aRf o), (1, aI p1), (2, aI p2), (3, aI (0 : Int32))] rfl ?_
  refine aw_wh_elim (fun (s : Int32 × aw_W) => aj_J Γ 4 (0, 0) 74 [(0, aRf o), (1, aI p1), (2, aI p2), (3, aI s.1)] [] s.2) ?_ he26
  intro s26 x26 hm hin26 hout26
  try dsimp only at hm ⊢
  refine j_iload_n G d_M_copyRow_74 rfl ?_
  refine j_bipush (v := 100) G d_M_copyRow_75 (by decide) ?_
  refine j_icmp_ge (tgt := 108) G d_M_copyRow_77 rfl (fun hc => ?_) (fun hc => ?_)
  · rw [if_pos hc] at hm
    have q26 := hout26 _ (Option.some.inj hm).symm
    clear hin26 hout26
    subst q26
    clear hm
    have hm := ho26
    clear ho26
    try dsimp only at hm
    refine j_iconst (v := 0) G d_M_copyRow_108 (by decide) ?_
    refine j_istore_n G d_M_copyRow_109 (by decide) ?_
    obtain ⟨e27, he27, ho27⟩ := Option.bind_eq_some_iff.mp hm
    clear hm
    refine j_lv [(0, aRf o), (1, aI p1), (2, aI p2), (3, aI (0 : Int32))] rfl ?_
    refine aw_wh_elim (fun (s : Int32 × aw_W) => aj_J Γ 4 (0, 0) 110 [(0, aRf o), (1, aI p1), (2, aI p2), (3, aI s.1)] [] s.2) ?_ he27
    intro s27 x27 hm hin27 hout27
    try dsimp only at hm ⊢
    refine j_iload_n G d_M_copyRow_110 rfl ?_
    refine j_bipush (v := 120) G d_M_copyRow_111 (by decide) ?_
    refine j_icmp_ge (tgt := 144) G d_M_copyRow_113 rfl (fun hc => ?_) (fun hc => ?_)
    · rw [if_pos hc] at hm
      have q27 := hout27 _ (Option.some.inj hm).symm
      clear hin27 hout27
      subst q27
      clear hm
      have hm := ho27
      clear ho27
      try dsimp only at hm
      refine j_iconst (v := 0) G d_M_copyRow_144 (by decide) ?_
      refine j_istore_n G d_M_copyRow_145 (by decide) ?_
      obtain ⟨e28, he28, ho28⟩ := Option.bind_eq_some_iff.mp hm
      clear hm
      refine j_lv [(0, aRf o), (1, aI p1), (2, aI p2), (3, aI (0 : Int32))] rfl ?_
      refine aw_wh_elim (fun (s : Int32 × aw_W) => aj_J Γ 4 (0, 0) 146 [(0, aRf o), (1, aI p1), (2, aI p2), (3, aI s.1)] [] s.2) ?_ he28
      intro s28 x28 hm hin28 hout28
      try dsimp only at hm ⊢
      refine j_iload_n G d_M_copyRow_146 rfl ?_
      refine j_bipush (v := 12) G d_M_copyRow_147 (by decide) ?_
      refine j_icmp_ge (tgt := 224) G d_M_copyRow_149 rfl (fun hc => ?_) (fun hc => ?_)
      · rw [if_pos hc] at hm
        have q28 := hout28 _ (Option.some.inj hm).symm
        clear hin28 hout28
        subst q28
        clear hm
        have hm := ho28
        clear ho28
        try dsimp only at hm
        obtain rfl := Option.some.inj hm
        exact j_vret G E d_M_copyRow_224 ⟨by decide, by decide⟩ ⟨rfl, rfl⟩
      · rw [if_neg hc] at hm
        refine j_aload_n G d_M_copyRow_152 rfl ?_
        obtain ⟨v29, hv29, hm⟩ := Option.bind_eq_some_iff.mp hm
        refine j_gR G d_M_copyRow_153 fl_M_35 hv29 ?_
        refine j_bipush (v := 12) G d_M_copyRow_156 (by decide) ?_
        refine j_iload_n G d_M_copyRow_158 rfl ?_
        refine j_imul G d_M_copyRow_159 ?_
        refine j_iload_n G d_M_copyRow_160 rfl ?_
        refine j_iadd G d_M_copyRow_161 ?_
        refine j_aload_n G d_M_copyRow_162 rfl ?_
        obtain ⟨v30, hv30, hm⟩ := Option.bind_eq_some_iff.mp hm
        refine j_gR G d_M_copyRow_163 fl_M_35 hv30 ?_
        refine j_bipush (v := 12) G d_M_copyRow_166 (by decide) ?_
        refine j_iload_n G d_M_copyRow_168 rfl ?_
        refine j_imul G d_M_copyRow_169 ?_
        refine j_iload_n G d_M_copyRow_170 rfl ?_
        refine j_iadd G d_M_copyRow_171 ?_
        obtain ⟨v31, hv31, hm⟩ := Option.bind_eq_some_iff.mp hm
        refine j_iald G d_M_copyRow_172 hv31 ?_
        obtain ⟨v32, hv32, hm⟩ := Option.bind_eq_some_iff.mp hm
        refine j_iast G d_M_copyRow_173 hv32 ?_
        refine j_aload_n G d_M_copyRow_174 rfl ?_
        obtain ⟨v33, hv33, hm⟩ := Option.bind_eq_some_iff.mp hm
        refine j_gR G d_M_copyRow_175 fl_M_38 hv33 ?_
        refine j_bipush (v := 12) G d_M_copyRow_178 (by decide) ?_
        refine j_iload_n G d_M_copyRow_180 rfl ?_
        refine j_imul G d_M_copyRow_181 ?_
        refine j_iload_n G d_M_copyRow_182 rfl ?_
        refine j_iadd G d_M_copyRow_183 ?_
        refine j_aload_n G d_M_copyRow_184 rfl ?_
        obtain ⟨v34, hv34, hm⟩ := Option.bind_eq_some_iff.mp hm
        refine j_gR G d_M_copyRow_185 fl_M_38 hv34 ?_
        refine j_bipush (v := 12) G d_M_copyRow_188 (by decide) ?_
        refine j_iload_n G d_M_copyRow_190 rfl ?_
        refine j_imul G d_M_copyRow_191 ?_
        refine j_iload_n G d_M_copyRow_192 rfl ?_
        refine j_iadd G d_M_copyRow_193 ?_
        obtain ⟨v35, hv35, hm⟩ := Option.bind_eq_some_iff.mp hm
        refine j_iald G d_M_copyRow_194 hv35 ?_
        obtain ⟨v36, hv36, hm⟩ := Option.bind_eq_some_iff.mp hm
        refine j_iast G d_M_copyRow_195 hv36 ?_
        refine j_aload_n G d_M_copyRow_196 rfl ?_
        obtain ⟨v37, hv37, hm⟩ := Option.bind_eq_some_iff.mp hm
        refine j_gR G d_M_copyRow_197 fl_M_41 hv37 ?_
        refine j_bipush (v := 12) G d_M_copyRow_200 (by decide) ?_
        refine j_iload_n G d_M_copyRow_202 rfl ?_
        refine j_imul G d_M_copyRow_203 ?_
        refine j_iload_n G d_M_copyRow_204 rfl ?_
        refine j_iadd G d_M_copyRow_205 ?_
        refine j_aload_n G d_M_copyRow_206 rfl ?_
        obtain ⟨v38, hv38, hm⟩ := Option.bind_eq_some_iff.mp hm
        refine j_gR G d_M_copyRow_207 fl_M_41 hv38 ?_
        refine j_bipush (v := 12) G d_M_copyRow_210 (by decide) ?_
        refine j_iload_n G d_M_copyRow_212 rfl ?_
        refine j_imul G d_M_copyRow_213 ?_
        refine j_iload_n G d_M_copyRow_214 rfl ?_
        refine j_iadd G d_M_copyRow_215 ?_
        obtain ⟨v39, hv39, hm⟩ := Option.bind_eq_some_iff.mp hm
        refine j_iald G d_M_copyRow_216 hv39 ?_
        obtain ⟨v40, hv40, hm⟩ := Option.bind_eq_some_iff.mp hm
        refine j_iast G d_M_copyRow_217 hv40 ?_
        refine j_iinc (v := s28.1 + 1) G d_M_copyRow_218 rfl (by first | rfl | decide) (by decide) ?_
        refine j_goto (tgt := 146) G d_M_copyRow_221 rfl ?_
        refine j_lv [(0, aRf o), (1, aI p1), (2, aI p2), (3, aI (s28.1 + 1))] rfl ?_
        have z9 := hin28 _ (Option.some.inj hm).symm
        exact z9
    · rw [if_neg hc] at hm
      refine j_aload_n G d_M_copyRow_116 rfl ?_
      obtain ⟨v41, hv41, hm⟩ := Option.bind_eq_some_iff.mp hm
      refine j_gR G d_M_copyRow_117 fl_M_29 hv41 ?_
      refine j_bipush (v := 120) G d_M_copyRow_120 (by decide) ?_
      refine j_iload_n G d_M_copyRow_122 rfl ?_
      refine j_imul G d_M_copyRow_123 ?_
      refine j_iload_n G d_M_copyRow_124 rfl ?_
      refine j_iadd G d_M_copyRow_125 ?_
      refine j_aload_n G d_M_copyRow_126 rfl ?_
      obtain ⟨v42, hv42, hm⟩ := Option.bind_eq_some_iff.mp hm
      refine j_gR G d_M_copyRow_127 fl_M_29 hv42 ?_
      refine j_bipush (v := 120) G d_M_copyRow_130 (by decide) ?_
      refine j_iload_n G d_M_copyRow_132 rfl ?_
      refine j_imul G d_M_copyRow_133 ?_
      refine j_iload_n G d_M_copyRow_134 rfl ?_
      refine j_iadd G d_M_copyRow_135 ?_
      obtain ⟨v43, hv43, hm⟩ := Option.bind_eq_some_iff.mp hm
      refine j_iald G d_M_copyRow_136 hv43 ?_
      obtain ⟨v44, hv44, hm⟩ := Option.bind_eq_some_iff.mp hm
      refine j_iast G d_M_copyRow_137 hv44 ?_
      refine j_iinc (v := s27.1 + 1) G d_M_copyRow_138 rfl (by first | rfl | decide) (by decide) ?_
      refine j_goto (tgt := 110) G d_M_copyRow_141 rfl ?_
      refine j_lv [(0, aRf o), (1, aI p1), (2, aI p2), (3, aI (s27.1 + 1))] rfl ?_
      have z9 := hin27 _ (Option.some.inj hm).symm
      exact z9
  · rw [if_neg hc] at hm
    refine j_aload_n G d_M_copyRow_80 rfl ?_
    obtain ⟨v45, hv45, hm⟩ := Option.bind_eq_some_iff.mp hm
    refine j_gR G d_M_copyRow_81 fl_M_19 hv45 ?_
    refine j_bipush (v := 100) G d_M_copyRow_84 (by decide) ?_
    refine j_iload_n G d_M_copyRow_86 rfl ?_
    refine j_imul G d_M_copyRow_87 ?_
    refine j_iload_n G d_M_copyRow_88 rfl ?_
    refine j_iadd G d_M_copyRow_89 ?_
    refine j_aload_n G d_M_copyRow_90 rfl ?_
    obtain ⟨v46, hv46, hm⟩ := Option.bind_eq_some_iff.mp hm
    refine j_gR G d_M_copyRow_91 fl_M_19 hv46 ?_
    refine j_bipush (v := 100) G d_M_copyRow_94 (by decide) ?_
    refine j_iload_n G d_M_copyRow_96 rfl ?_
    refine j_imul G d_M_copyRow_97 ?_
    refine j_iload_n G d_M_copyRow_98 rfl ?_
    refine j_iadd G d_M_copyRow_99 ?_
    obtain ⟨v47, hv47, hm⟩ := Option.bind_eq_some_iff.mp hm
    refine j_iald G d_M_copyRow_100 hv47 ?_
    obtain ⟨v48, hv48, hm⟩ := Option.bind_eq_some_iff.mp hm
    refine j_iast G d_M_copyRow_101 hv48 ?_
    refine j_iinc (v := s26.1 + 1) G d_M_copyRow_102 rfl (by first | rfl | decide) (by decide) ?_
    refine j_goto (tgt := 74) G d_M_copyRow_105 rfl ?_
    refine j_lv [(0, aRf o), (1, aI p1), (2, aI p2), (3, aI (s26.1 + 1))] rfl ?_
    have z9 := hin26 _ (Option.some.inj hm).symm
    exact z9
noncomputable def f_M_find (w : aw_W) (o : Option Nat) (p1 : Int64) (p2 : Int32) : Option (Int32) :=
  (aw_wh (σ := Int32) (τ := (Int32) ⊕ (Int32)) (fun s1 =>
    (aw_gI w o 7 15).bind fun v2 =>
    if v2 ≤ s1 then
      some (.inr (.inl s1))
    else
      (aw_gR w o 7 16).bind fun v3 =>
      (aw_aL w v3 2 s1).bind fun v4 =>
      if (lg_cmp v4 p1) = 0 then
        (aw_gR w o 7 17).bind fun v5 =>
        (aw_aI w v5 1 s1).bind fun v6 =>
        if v6 = p2 then
          some (.inr (.inr s1))
        else
          some (.inl (s1 + 1))
      else
        some (.inl (s1 + 1))) (0 : Int32)).bind fun e7 =>
  match e7 with
  | .inl s8 =>
    some (-1 : Int32)
  | .inr r9 => some r9
abbrev rm_M_find : Room := { frames := 0, cells := 0, slots := 0, locals := 0 }
set_option maxRecDepth 100000 in
set_option maxHeartbeats 4000000 in
theorem c_M_find (l : Launch) (hl : l.stackTraces = false) (D : va_G) (dA : Nat → ClassId) (base : Nat) (w : aw_W) (o : Option Nat) (p1 : Int64) (p2 : Int32) (r : Int32) (hm : f_M_find w o p1 p2 = some r) : aj_Ct l D dA base m_M_find rm_M_find [aRf o, aL p1, aI p2] w (fun v w' => some (aI r) = v ∧ w = w') := by
  refine aj_enter hl (by decide) (Nat.le_of_ble_eq_true rfl) ?_
  intro Γ G E
  unfold f_M_find at hm
  refine j_iconst (v := 0) G d_M_find_0 (by decide) ?_
  refine j_istore G d_M_find_1 (by decide) ?_
  obtain ⟨e1, he1, ho1⟩ := Option.bind_eq_some_iff.mp hm
  clear hm
  refine j_lv [(0, aRf o), (1, aL p1), (3, aI p2), (4, aI (0 : Int32))] rfl ?_
  refine aw_wh_elim (fun (s : Int32) => aj_J Γ 5 (0, 0) 3 [(0, aRf o), (1, aL p1), (3, aI p2), (4, aI s)] [] w) ?_ he1
  intro s1 x1 hm hin1 hout1
  try dsimp only at hm ⊢
  refine j_iload G d_M_find_3 rfl ?_
  refine j_aload_n G d_M_find_5 rfl ?_
  obtain ⟨v2, hv2, hm⟩ := Option.bind_eq_some_iff.mp hm
  refine j_gI G d_M_find_6 fl_M_85 hv2 ?_
  refine j_icmp_ge (tgt := 44) G d_M_find_9 rfl (fun hc => ?_) (fun hc => ?_)
  · rw [if_pos hc] at hm
    have q1 := hout1 _ (Option.some.inj hm).symm
    clear hin1 hout1
    subst q1
    clear hm
    have hm := ho1
    clear ho1
    try dsimp only at hm
    refine j_iconst (v := -1) G d_M_find_44 (by decide) ?_
    obtain rfl := Option.some.inj hm
    exact j_iret G E d_M_find_45 ⟨by decide, by decide⟩ ⟨rfl, rfl⟩
  · rw [if_neg hc] at hm
    refine j_aload_n G d_M_find_12 rfl ?_
    obtain ⟨v3, hv3, hm⟩ := Option.bind_eq_some_iff.mp hm
    refine j_gR G d_M_find_13 fl_M_50 hv3 ?_
    refine j_iload G d_M_find_16 rfl ?_
    obtain ⟨v4, hv4, hm⟩ := Option.bind_eq_some_iff.mp hm
    refine j_lald G d_M_find_18 hv4 ?_
    refine j_lload_n G d_M_find_19 rfl ?_
    refine j_lcmp G d_M_find_20 ?_
    refine j_if_ne (tgt := 38) G d_M_find_21 rfl (fun hc => ?_) (fun hc => ?_)
    · rw [if_neg hc] at hm
      refine j_iinc (v := s1 + 1) G d_M_find_38 rfl (by first | rfl | decide) (by decide) ?_
      refine j_goto (tgt := 3) G d_M_find_41 rfl ?_
      refine j_lv [(0, aRf o), (1, aL p1), (3, aI p2), (4, aI (s1 + 1))] rfl ?_
      have z9 := hin1 _ (Option.some.inj hm).symm
      exact z9
    · rw [if_pos hc] at hm
      refine j_aload_n G d_M_find_24 rfl ?_
      obtain ⟨v5, hv5, hm⟩ := Option.bind_eq_some_iff.mp hm
      refine j_gR G d_M_find_25 fl_M_54 hv5 ?_
      refine j_iload G d_M_find_28 rfl ?_
      obtain ⟨v6, hv6, hm⟩ := Option.bind_eq_some_iff.mp hm
      refine j_iald G d_M_find_30 hv6 ?_
      refine j_iload_n G d_M_find_31 rfl ?_
      refine j_icmp_ne (tgt := 38) G d_M_find_32 rfl (fun hc => ?_) (fun hc => ?_)
      · rw [if_neg hc] at hm
        refine j_iinc (v := s1 + 1) G d_M_find_38 rfl (by first | rfl | decide) (by decide) ?_
        refine j_goto (tgt := 3) G d_M_find_41 rfl ?_
        refine j_lv [(0, aRf o), (1, aL p1), (3, aI p2), (4, aI (s1 + 1))] rfl ?_
        have z9 := hin1 _ (Option.some.inj hm).symm
        exact z9
      · rw [if_pos hc] at hm
        refine j_iload G d_M_find_35 rfl ?_
        have q1 := hout1 _ (Option.some.inj hm).symm
        clear hin1 hout1
        subst q1
        clear hm
        have hm := ho1
        clear ho1
        try dsimp only at hm
        obtain rfl := Option.some.inj hm
        exact j_iret G E d_M_find_37 ⟨by decide, by decide⟩ ⟨rfl, rfl⟩
noncomputable def f_M_set (w : aw_W) (o : Option Nat) (p1 : Int64) (p2 : Int32) (p3 : Int32) (p4 : Int32) : Option (aw_W) :=
  (aw_obj w o 7).bind fun v1 =>
  (f_M_find w o p1 p2).bind fun v2 =>
  (if 0 ≤ v2 then
      some (v2, w)
    else
      (aw_gI w o 7 15).bind fun v3 =>
      (aw_gI w o 7 15).bind fun v4 =>
      (aw_pV w o 7 15 (.int (v4 + (1 : Int32)))).bind fun v5 =>
      (aw_gR v5 o 7 16).bind fun v6 =>
      (aw_sL v5 v6 2 v3 p1).bind fun v7 =>
      (aw_gR v7 o 7 17).bind fun v8 =>
      (aw_sI v7 v8 1 v3 p2).bind fun v9 =>
      some (v3, v9) : Option (Int32 × aw_W)).bind fun j10 =>
  (aw_gR j10.2 o 7 18).bind fun v11 =>
  (aw_sI j10.2 v11 1 j10.1 p3).bind fun v12 =>
  (aw_gR v12 o 7 19).bind fun v13 =>
  (aw_sI v12 v13 1 j10.1 p4).bind fun v14 =>
  some v14
abbrev rm_M_set : Room := { frames := 1, cells := 0, slots := 0, locals := 24 }
set_option maxRecDepth 100000 in
set_option maxHeartbeats 4000000 in
theorem c_M_set (l : Launch) (hl : l.stackTraces = false) (D : va_G) (dA : Nat → ClassId) (base : Nat) (w : aw_W) (o : Option Nat) (p1 : Int64) (p2 : Int32) (p3 : Int32) (p4 : Int32) (r : aw_W) (hm : f_M_set w o p1 p2 p3 p4 = some r) : aj_Ct l D dA base m_M_set rm_M_set [aRf o, aL p1, aI p2, aI p3, aI p4] w (fun v w' => none = v ∧ r = w') := by
  refine aj_enter hl (by decide) (Nat.le_of_ble_eq_true rfl) ?_
  intro Γ G E
  unfold f_M_set at hm
  refine j_aload_n G d_M_set_0 rfl ?_
  refine j_lload_n G d_M_set_1 rfl ?_
  refine j_iload_n G d_M_set_2 rfl ?_
  obtain ⟨v1, hv1, hm⟩ := Option.bind_eq_some_iff.mp hm
  obtain ⟨v2, hv2, hm⟩ := Option.bind_eq_some_iff.mp hm
  refine j_callV (As := [aL p1, aI p2]) G d_M_set_3 (c_M_find _ G.off _ _ _ _ _ _ _ _ hv2) mw_M_find mi_M_find lk_M_88 rfl hv1 rfl rfl (Nat.le_of_ble_eq_true rfl) ⟨by decide, by decide⟩ ⟨by decide, by decide⟩ (fun v9 w9 hp => ?_)
  obtain ⟨rfl, rfl⟩ := hp
  refine j_istore G d_M_set_6 (by decide) ?_
  refine j_iload G d_M_set_8 rfl ?_
  obtain ⟨j3, hj3, ho3⟩ := Option.bind_eq_some_iff.mp hm
  clear hm
  have hJ3 : aj_J Γ 7 (0, 0) 45 [(0, aRf o), (4, aI p3), (5, aI p4), (6, aI j3.1)] [] j3.2 := by
    clear hj3
    have hm := ho3
    clear ho3
    refine j_aload_n G d_M_set_45 rfl ?_
    obtain ⟨v4, hv4, hm⟩ := Option.bind_eq_some_iff.mp hm
    refine j_gR G d_M_set_46 fl_M_57 hv4 ?_
    refine j_iload G d_M_set_49 rfl ?_
    refine j_iload G d_M_set_51 rfl ?_
    obtain ⟨v5, hv5, hm⟩ := Option.bind_eq_some_iff.mp hm
    refine j_iast G d_M_set_53 hv5 ?_
    refine j_aload_n G d_M_set_54 rfl ?_
    obtain ⟨v6, hv6, hm⟩ := Option.bind_eq_some_iff.mp hm
    refine j_gR G d_M_set_55 fl_M_60 hv6 ?_
    refine j_iload G d_M_set_58 rfl ?_
    refine j_iload G d_M_set_60 rfl ?_
    obtain ⟨v7, hv7, hm⟩ := Option.bind_eq_some_iff.mp hm
    refine j_iast G d_M_set_62 hv7 ?_
    obtain rfl := Option.some.inj hm
    exact j_vret G E d_M_set_63 ⟨by decide, by decide⟩ ⟨rfl, rfl⟩
  clear ho3
  have hm := hj3
  clear hj3
  refine j_if_ge (tgt := 45) G d_M_set_10 rfl (fun hc => ?_) (fun hc => ?_)
  · rw [if_pos hc] at hm
    obtain rfl := Option.some.inj hm
    refine j_lv [(0, aRf o), (4, aI p3), (5, aI p4), (6, aI v2)] rfl ?_
    exact hJ3
  · rw [if_neg hc] at hm
    refine j_aload_n G d_M_set_13 rfl ?_
    obtain ⟨v8, hv8, hm⟩ := Option.bind_eq_some_iff.mp hm
    refine j_gI G d_M_set_14 fl_M_85 hv8 ?_
    refine j_istore G d_M_set_17 (by decide) ?_
    refine j_aload_n G d_M_set_19 rfl ?_
    refine j_dup G d_M_set_20 rfl ?_
    obtain ⟨v9, hv9, hm⟩ := Option.bind_eq_some_iff.mp hm
    refine j_gI G d_M_set_21 fl_M_85 hv9 ?_
    refine j_iconst (v := 1) G d_M_set_24 (by decide) ?_
    refine j_iadd G d_M_set_25 ?_
    obtain ⟨v10, hv10, hm⟩ := Option.bind_eq_some_iff.mp hm
    refine j_pV (ty := aY_M 15) G d_M_set_26 fl_M_85 ac_M (aw_T_of_M 15 (by decide) rfl) rfl rfl hv10 ?_
    refine j_aload_n G d_M_set_29 rfl ?_
    obtain ⟨v11, hv11, hm⟩ := Option.bind_eq_some_iff.mp hm
    refine j_gR G d_M_set_30 fl_M_50 hv11 ?_
    refine j_iload G d_M_set_33 rfl ?_
    refine j_lload_n G d_M_set_35 rfl ?_
    obtain ⟨v12, hv12, hm⟩ := Option.bind_eq_some_iff.mp hm
    refine j_last G d_M_set_36 hv12 ?_
    refine j_aload_n G d_M_set_37 rfl ?_
    obtain ⟨v13, hv13, hm⟩ := Option.bind_eq_some_iff.mp hm
    refine j_gR G d_M_set_38 fl_M_54 hv13 ?_
    refine j_iload G d_M_set_41 rfl ?_
    refine j_iload_n G d_M_set_43 rfl ?_
    obtain ⟨v14, hv14, hm⟩ := Option.bind_eq_some_iff.mp hm
    refine j_iast G d_M_set_44 hv14 ?_
    obtain rfl := Option.some.inj hm
    refine j_lv [(0, aRf o), (4, aI p3), (5, aI p4), (6, aI v8)] rfl ?_
    exact hJ3
noncomputable def f_M_unset (w : aw_W) (o : Option Nat) (p1 : Int64) (p2 : Int32) : Option (aw_W) :=
  (aw_obj w o 7).bind fun v1 =>
  (f_M_find w o p1 p2).bind fun v2 =>
  if 0 ≤ v2 then
    (aw_gI w o 7 15).bind fun v3 =>
    (aw_pV w o 7 15 (.int (v3 - (1 : Int32)))).bind fun v4 =>
    (aw_gR v4 o 7 16).bind fun v5 =>
    (aw_gR v4 o 7 16).bind fun v6 =>
    (aw_gI v4 o 7 15).bind fun v7 =>
    (aw_aL v4 v6 2 v7).bind fun v8 =>
    (aw_sL v4 v5 2 v2 v8).bind fun v9 =>
    (aw_gR v9 o 7 17).bind fun v10 =>
    (aw_gR v9 o 7 17).bind fun v11 =>
    (aw_gI v9 o 7 15).bind fun v12 =>
    (aw_aI v9 v11 1 v12).bind fun v13 =>
    (aw_sI v9 v10 1 v2 v13).bind fun v14 =>
    (aw_gR v14 o 7 18).bind fun v15 =>
    (aw_gR v14 o 7 18).bind fun v16 =>
    (aw_gI v14 o 7 15).bind fun v17 =>
    (aw_aI v14 v16 1 v17).bind fun v18 =>
    (aw_sI v14 v15 1 v2 v18).bind fun v19 =>
    (aw_gR v19 o 7 19).bind fun v20 =>
    (aw_gR v19 o 7 19).bind fun v21 =>
    (aw_gI v19 o 7 15).bind fun v22 =>
    (aw_aI v19 v21 1 v22).bind fun v23 =>
    (aw_sI v19 v20 1 v2 v23).bind fun v24 =>
    some v24
  else
    some w
abbrev rm_M_unset : Room := { frames := 1, cells := 0, slots := 0, locals := 24 }
set_option maxRecDepth 100000 in
set_option maxHeartbeats 4000000 in
theorem c_M_unset (l : Launch) (hl : l.stackTraces = false) (D : va_G) (dA : Nat → ClassId) (base : Nat) (w : aw_W) (o : Option Nat) (p1 : Int64) (p2 : Int32) (r : aw_W) (hm : f_M_unset w o p1 p2 = some r) : aj_Ct l D dA base m_M_unset rm_M_unset [aRf o, aL p1, aI p2] w (fun v w' => none = v ∧ r = w') := by
  refine aj_enter hl (by decide) (Nat.le_of_ble_eq_true rfl) ?_
  intro Γ G E
  unfold f_M_unset at hm
  refine j_aload_n G d_M_unset_0 rfl ?_
  refine j_lload_n G d_M_unset_1 rfl ?_
  refine j_iload_n G d_M_unset_2 rfl ?_
  obtain ⟨v1, hv1, hm⟩ := Option.bind_eq_some_iff.mp hm
  obtain ⟨v2, hv2, hm⟩ := Option.bind_eq_some_iff.mp hm
  refine j_callV (As := [aL p1, aI p2]) G d_M_unset_3 (c_M_find _ G.off _ _ _ _ _ _ _ _ hv2) mw_M_find mi_M_find lk_M_88 rfl hv1 rfl rfl (Nat.le_of_ble_eq_true rfl) ⟨by decide, by decide⟩ ⟨by decide, by decide⟩ (fun v9 w9 hp => ?_)
  obtain ⟨rfl, rfl⟩ := hp
  refine j_istore G d_M_unset_6 (by decide) ?_
  refine j_iload G d_M_unset_8 rfl ?_
  refine j_if_ge (tgt := 14) G d_M_unset_10 rfl (fun hc => ?_) (fun hc => ?_)
  · rw [if_pos hc] at hm
    refine j_aload_n G d_M_unset_14 rfl ?_
    refine j_dup G d_M_unset_15 rfl ?_
    obtain ⟨v3, hv3, hm⟩ := Option.bind_eq_some_iff.mp hm
    refine j_gI G d_M_unset_16 fl_M_85 hv3 ?_
    refine j_iconst (v := 1) G d_M_unset_19 (by decide) ?_
    refine j_isub G d_M_unset_20 ?_
    obtain ⟨v4, hv4, hm⟩ := Option.bind_eq_some_iff.mp hm
    refine j_pV (ty := aY_M 15) G d_M_unset_21 fl_M_85 ac_M (aw_T_of_M 15 (by decide) rfl) rfl rfl hv4 ?_
    refine j_aload_n G d_M_unset_24 rfl ?_
    obtain ⟨v5, hv5, hm⟩ := Option.bind_eq_some_iff.mp hm
    refine j_gR G d_M_unset_25 fl_M_50 hv5 ?_
    refine j_iload G d_M_unset_28 rfl ?_
    refine j_aload_n G d_M_unset_30 rfl ?_
    obtain ⟨v6, hv6, hm⟩ := Option.bind_eq_some_iff.mp hm
    refine j_gR G d_M_unset_31 fl_M_50 hv6 ?_
    refine j_aload_n G d_M_unset_34 rfl ?_
    obtain ⟨v7, hv7, hm⟩ := Option.bind_eq_some_iff.mp hm
    refine j_gI G d_M_unset_35 fl_M_85 hv7 ?_
    obtain ⟨v8, hv8, hm⟩ := Option.bind_eq_some_iff.mp hm
    refine j_lald G d_M_unset_38 hv8 ?_
    obtain ⟨v9, hv9, hm⟩ := Option.bind_eq_some_iff.mp hm
    refine j_last G d_M_unset_39 hv9 ?_
    refine j_aload_n G d_M_unset_40 rfl ?_
    obtain ⟨v10, hv10, hm⟩ := Option.bind_eq_some_iff.mp hm
    refine j_gR G d_M_unset_41 fl_M_54 hv10 ?_
    refine j_iload G d_M_unset_44 rfl ?_
    refine j_aload_n G d_M_unset_46 rfl ?_
    obtain ⟨v11, hv11, hm⟩ := Option.bind_eq_some_iff.mp hm
    refine j_gR G d_M_unset_47 fl_M_54 hv11 ?_
    refine j_aload_n G d_M_unset_50 rfl ?_
    obtain ⟨v12, hv12, hm⟩ := Option.bind_eq_some_iff.mp hm
    refine j_gI G d_M_unset_51 fl_M_85 hv12 ?_
    obtain ⟨v13, hv13, hm⟩ := Option.bind_eq_some_iff.mp hm
    refine j_iald G d_M_unset_54 hv13 ?_
    obtain ⟨v14, hv14, hm⟩ := Option.bind_eq_some_iff.mp hm
    refine j_iast G d_M_unset_55 hv14 ?_
    refine j_aload_n G d_M_unset_56 rfl ?_
    obtain ⟨v15, hv15, hm⟩ := Option.bind_eq_some_iff.mp hm
    refine j_gR G d_M_unset_57 fl_M_57 hv15 ?_
    refine j_iload G d_M_unset_60 rfl ?_
    refine j_aload_n G d_M_unset_62 rfl ?_
    obtain ⟨v16, hv16, hm⟩ := Option.bind_eq_some_iff.mp hm
    refine j_gR G d_M_unset_63 fl_M_57 hv16 ?_
    refine j_aload_n G d_M_unset_66 rfl ?_
    obtain ⟨v17, hv17, hm⟩ := Option.bind_eq_some_iff.mp hm
    refine j_gI G d_M_unset_67 fl_M_85 hv17 ?_
    obtain ⟨v18, hv18, hm⟩ := Option.bind_eq_some_iff.mp hm
    refine j_iald G d_M_unset_70 hv18 ?_
    obtain ⟨v19, hv19, hm⟩ := Option.bind_eq_some_iff.mp hm
    refine j_iast G d_M_unset_71 hv19 ?_
    refine j_aload_n G d_M_unset_72 rfl ?_
    obtain ⟨v20, hv20, hm⟩ := Option.bind_eq_some_iff.mp hm
    refine j_gR G d_M_unset_73 fl_M_60 hv20 ?_
    refine j_iload G d_M_unset_76 rfl ?_
    refine j_aload_n G d_M_unset_78 rfl ?_
    obtain ⟨v21, hv21, hm⟩ := Option.bind_eq_some_iff.mp hm
    refine j_gR G d_M_unset_79 fl_M_60 hv21 ?_
    refine j_aload_n G d_M_unset_82 rfl ?_
    obtain ⟨v22, hv22, hm⟩ := Option.bind_eq_some_iff.mp hm
    refine j_gI G d_M_unset_83 fl_M_85 hv22 ?_
    obtain ⟨v23, hv23, hm⟩ := Option.bind_eq_some_iff.mp hm
    refine j_iald G d_M_unset_86 hv23 ?_
    obtain ⟨v24, hv24, hm⟩ := Option.bind_eq_some_iff.mp hm
    refine j_iast G d_M_unset_87 hv24 ?_
    obtain rfl := Option.some.inj hm
    exact j_vret G E d_M_unset_88 ⟨by decide, by decide⟩ ⟨rfl, rfl⟩
  · rw [if_neg hc] at hm
    obtain rfl := Option.some.inj hm
    exact j_vret G E d_M_unset_13 ⟨by decide, by decide⟩ ⟨rfl, rfl⟩
noncomputable def f_M_live (w : aw_W) (o : Option Nat) (p1 : Int32) (p2 : Int32) : Option (Int32) :=
  (aw_wh (σ := Int32) (τ := (Int32) ⊕ (Int32)) (fun s1 =>
    (aw_gI w o 7 15).bind fun v2 =>
    if v2 ≤ s1 then
      some (.inr (.inl s1))
    else
      (aw_gR w o 7 18).bind fun v3 =>
      (aw_aI w v3 1 s1).bind fun v4 =>
      if v4 = p1 then
        (aw_gR w o 7 19).bind fun v5 =>
        (aw_aI w v5 1 s1).bind fun v6 =>
        if v6 = p2 then
          some (.inr (.inr s1))
        else
          some (.inl (s1 + 1))
      else
        some (.inl (s1 + 1))) (0 : Int32)).bind fun e7 =>
  match e7 with
  | .inl s8 =>
    some (-1 : Int32)
  | .inr r9 => some r9
abbrev rm_M_live : Room := { frames := 0, cells := 0, slots := 0, locals := 0 }
set_option maxRecDepth 100000 in
set_option maxHeartbeats 4000000 in
theorem c_M_live (l : Launch) (hl : l.stackTraces = false) (D : va_G) (dA : Nat → ClassId) (base : Nat) (w : aw_W) (o : Option Nat) (p1 : Int32) (p2 : Int32) (r : Int32) (hm : f_M_live w o p1 p2 = some r) : aj_Ct l D dA base m_M_live rm_M_live [aRf o, aI p1, aI p2] w (fun v w' => some (aI r) = v ∧ w = w') := by
  refine aj_enter hl (by decide) (Nat.le_of_ble_eq_true rfl) ?_
  intro Γ G E
  unfold f_M_live at hm
  refine j_iconst (v := 0) G d_M_live_0 (by decide) ?_
  refine j_istore_n G d_M_live_1 (by decide) ?_
  obtain ⟨e1, he1, ho1⟩ := Option.bind_eq_some_iff.mp hm
  clear hm
  refine j_lv [(0, aRf o), (1, aI p1), (2, aI p2), (3, aI (0 : Int32))] rfl ?_
  refine aw_wh_elim (fun (s : Int32) => aj_J Γ 4 (0, 0) 2 [(0, aRf o), (1, aI p1), (2, aI p2), (3, aI s)] [] w) ?_ he1
  intro s1 x1 hm hin1 hout1
  try dsimp only at hm ⊢
  refine j_iload_n G d_M_live_2 rfl ?_
  refine j_aload_n G d_M_live_3 rfl ?_
  obtain ⟨v2, hv2, hm⟩ := Option.bind_eq_some_iff.mp hm
  refine j_gI G d_M_live_4 fl_M_85 hv2 ?_
  refine j_icmp_ge (tgt := 38) G d_M_live_7 rfl (fun hc => ?_) (fun hc => ?_)
  · rw [if_pos hc] at hm
    have q1 := hout1 _ (Option.some.inj hm).symm
    clear hin1 hout1
    subst q1
    clear hm
    have hm := ho1
    clear ho1
    try dsimp only at hm
    refine j_iconst (v := -1) G d_M_live_38 (by decide) ?_
    obtain rfl := Option.some.inj hm
    exact j_iret G E d_M_live_39 ⟨by decide, by decide⟩ ⟨rfl, rfl⟩
  · rw [if_neg hc] at hm
    refine j_aload_n G d_M_live_10 rfl ?_
    obtain ⟨v3, hv3, hm⟩ := Option.bind_eq_some_iff.mp hm
    refine j_gR G d_M_live_11 fl_M_57 hv3 ?_
    refine j_iload_n G d_M_live_14 rfl ?_
    obtain ⟨v4, hv4, hm⟩ := Option.bind_eq_some_iff.mp hm
    refine j_iald G d_M_live_15 hv4 ?_
    refine j_iload_n G d_M_live_16 rfl ?_
    refine j_icmp_ne (tgt := 32) G d_M_live_17 rfl (fun hc => ?_) (fun hc => ?_)
    · rw [if_neg hc] at hm
      refine j_iinc (v := s1 + 1) G d_M_live_32 rfl (by first | rfl | decide) (by decide) ?_
      refine j_goto (tgt := 2) G d_M_live_35 rfl ?_
      refine j_lv [(0, aRf o), (1, aI p1), (2, aI p2), (3, aI (s1 + 1))] rfl ?_
      have z9 := hin1 _ (Option.some.inj hm).symm
      exact z9
    · rw [if_pos hc] at hm
      refine j_aload_n G d_M_live_20 rfl ?_
      obtain ⟨v5, hv5, hm⟩ := Option.bind_eq_some_iff.mp hm
      refine j_gR G d_M_live_21 fl_M_60 hv5 ?_
      refine j_iload_n G d_M_live_24 rfl ?_
      obtain ⟨v6, hv6, hm⟩ := Option.bind_eq_some_iff.mp hm
      refine j_iald G d_M_live_25 hv6 ?_
      refine j_iload_n G d_M_live_26 rfl ?_
      refine j_icmp_ne (tgt := 32) G d_M_live_27 rfl (fun hc => ?_) (fun hc => ?_)
      · rw [if_neg hc] at hm
        refine j_iinc (v := s1 + 1) G d_M_live_32 rfl (by first | rfl | decide) (by decide) ?_
        refine j_goto (tgt := 2) G d_M_live_35 rfl ?_
        refine j_lv [(0, aRf o), (1, aI p1), (2, aI p2), (3, aI (s1 + 1))] rfl ?_
        have z9 := hin1 _ (Option.some.inj hm).symm
        exact z9
      · rw [if_pos hc] at hm
        refine j_iload_n G d_M_live_30 rfl ?_
        have q1 := hout1 _ (Option.some.inj hm).symm
        clear hin1 hout1
        subst q1
        clear hm
        have hm := ho1
        clear ho1
        try dsimp only at hm
        obtain rfl := Option.some.inj hm
        exact j_iret G E d_M_live_31 ⟨by decide, by decide⟩ ⟨rfl, rfl⟩
noncomputable def f_M_rowOf (w : aw_W) (o : Option Nat) (p1 : Int32) : Option (Int32) :=
  (aw_wh (σ := Int32) (τ := Int32) (fun s1 =>
    (aw_gR w o 7 2).bind fun v2 =>
    (aw_aI w v2 1 s1).bind fun v3 =>
    if v3 = p1 then
      some (.inr s1)
    else
      some (.inl (s1 + 1))) (0 : Int32)).bind fun e4 =>
  some e4
abbrev rm_M_rowOf : Room := { frames := 0, cells := 0, slots := 0, locals := 0 }
set_option maxRecDepth 100000 in
set_option maxHeartbeats 4000000 in
theorem c_M_rowOf (l : Launch) (hl : l.stackTraces = false) (D : va_G) (dA : Nat → ClassId) (base : Nat) (w : aw_W) (o : Option Nat) (p1 : Int32) (r : Int32) (hm : f_M_rowOf w o p1 = some r) : aj_Ct l D dA base m_M_rowOf rm_M_rowOf [aRf o, aI p1] w (fun v w' => some (aI r) = v ∧ w = w') := by
  refine aj_enter hl (by decide) (Nat.le_of_ble_eq_true rfl) ?_
  intro Γ G E
  unfold f_M_rowOf at hm
  refine j_iconst (v := 0) G d_M_rowOf_0 (by decide) ?_
  refine j_istore_n G d_M_rowOf_1 (by decide) ?_
  obtain ⟨e1, he1, ho1⟩ := Option.bind_eq_some_iff.mp hm
  clear hm
  refine j_lv [(0, aRf o), (1, aI p1), (2, aI (0 : Int32))] rfl ?_
  refine aw_wh_elim (fun (s : Int32) => aj_J Γ 3 (0, 0) 2 [(0, aRf o), (1, aI p1), (2, aI s)] [] w) ?_ he1
  intro s1 x1 hm hin1 hout1
  try dsimp only at hm ⊢
  refine j_aload_n G d_M_rowOf_2 rfl ?_
  obtain ⟨v2, hv2, hm⟩ := Option.bind_eq_some_iff.mp hm
  refine j_gR G d_M_rowOf_3 fl_M_7 hv2 ?_
  refine j_iload_n G d_M_rowOf_6 rfl ?_
  obtain ⟨v3, hv3, hm⟩ := Option.bind_eq_some_iff.mp hm
  refine j_iald G d_M_rowOf_7 hv3 ?_
  refine j_iload_n G d_M_rowOf_8 rfl ?_
  refine j_icmp_eq (tgt := 18) G d_M_rowOf_9 rfl (fun hc => ?_) (fun hc => ?_)
  · rw [if_pos hc] at hm
    have q1 := hout1 _ (Option.some.inj hm).symm
    clear hin1 hout1
    subst q1
    clear hm
    have hm := ho1
    clear ho1
    try dsimp only at hm
    refine j_iload_n G d_M_rowOf_18 rfl ?_
    obtain rfl := Option.some.inj hm
    exact j_iret G E d_M_rowOf_19 ⟨by decide, by decide⟩ ⟨rfl, rfl⟩
  · rw [if_neg hc] at hm
    refine j_iinc (v := s1 + 1) G d_M_rowOf_12 rfl (by first | rfl | decide) (by decide) ?_
    refine j_goto (tgt := 2) G d_M_rowOf_15 rfl ?_
    refine j_lv [(0, aRf o), (1, aI p1), (2, aI (s1 + 1))] rfl ?_
    have z9 := hin1 _ (Option.some.inj hm).symm
    exact z9
noncomputable def f_M_letter (w : aw_W) (o : Option Nat) (p1 : Int32) (p2 : Int32) : Option (Int32) :=
  (aw_gR w o 7 17).bind fun v1 =>
  (aw_aI w v1 1 p1).bind fun v2 =>
  (if v2 ≤ p2 then
      some (-1 : Int32)
    else
      (aw_gR w o 7 16).bind fun v3 =>
      (aw_aL w v3 2 p1).bind fun v4 =>
      (aw_gR w o 7 17).bind fun v5 =>
      (aw_aI w v5 1 p1).bind fun v6 =>
      some (((aj_lshr v4 ((8 : Int32) * ((v6 - (1 : Int32)) - p2))) &&& (255 : Int64)).toInt32) : Option (Int32)).bind fun j7 =>
  some j7
abbrev rm_M_letter : Room := { frames := 0, cells := 0, slots := 0, locals := 0 }
set_option maxRecDepth 100000 in
set_option maxHeartbeats 4000000 in
theorem c_M_letter (l : Launch) (hl : l.stackTraces = false) (D : va_G) (dA : Nat → ClassId) (base : Nat) (w : aw_W) (o : Option Nat) (p1 : Int32) (p2 : Int32) (r : Int32) (hm : f_M_letter w o p1 p2 = some r) : aj_Ct l D dA base m_M_letter rm_M_letter [aRf o, aI p1, aI p2] w (fun v w' => some (aI r) = v ∧ w = w') := by
  refine aj_enter hl (by decide) (Nat.le_of_ble_eq_true rfl) ?_
  intro Γ G E
  unfold f_M_letter at hm
  refine j_iload_n G d_M_letter_0 rfl ?_
  refine j_aload_n G d_M_letter_1 rfl ?_
  obtain ⟨v1, hv1, hm⟩ := Option.bind_eq_some_iff.mp hm
  refine j_gR G d_M_letter_2 fl_M_54 hv1 ?_
  refine j_iload_n G d_M_letter_5 rfl ?_
  obtain ⟨v2, hv2, hm⟩ := Option.bind_eq_some_iff.mp hm
  refine j_iald G d_M_letter_6 hv2 ?_
  obtain ⟨j3, hj3, ho3⟩ := Option.bind_eq_some_iff.mp hm
  clear hm
  have hJ3 : aj_J Γ 3 (0, 0) 39 [] [aI j3] w := by
    clear hj3
    have hm := ho3
    clear ho3
    obtain rfl := Option.some.inj hm
    exact j_iret G E d_M_letter_39 ⟨by decide, by decide⟩ ⟨rfl, rfl⟩
  clear ho3
  have hm := hj3
  clear hj3
  refine j_icmp_ge (tgt := 38) G d_M_letter_7 rfl (fun hc => ?_) (fun hc => ?_)
  · rw [if_pos hc] at hm
    refine j_iconst (v := -1) G d_M_letter_38 (by decide) ?_
    obtain rfl := Option.some.inj hm
    refine j_lv [] rfl ?_
    exact hJ3
  · rw [if_neg hc] at hm
    refine j_aload_n G d_M_letter_10 rfl ?_
    obtain ⟨v4, hv4, hm⟩ := Option.bind_eq_some_iff.mp hm
    refine j_gR G d_M_letter_11 fl_M_50 hv4 ?_
    refine j_iload_n G d_M_letter_14 rfl ?_
    obtain ⟨v5, hv5, hm⟩ := Option.bind_eq_some_iff.mp hm
    refine j_lald G d_M_letter_15 hv5 ?_
    refine j_bipush (v := 8) G d_M_letter_16 (by decide) ?_
    refine j_aload_n G d_M_letter_18 rfl ?_
    obtain ⟨v6, hv6, hm⟩ := Option.bind_eq_some_iff.mp hm
    refine j_gR G d_M_letter_19 fl_M_54 hv6 ?_
    refine j_iload_n G d_M_letter_22 rfl ?_
    obtain ⟨v7, hv7, hm⟩ := Option.bind_eq_some_iff.mp hm
    refine j_iald G d_M_letter_23 hv7 ?_
    refine j_iconst (v := 1) G d_M_letter_24 (by decide) ?_
    refine j_isub G d_M_letter_25 ?_
    refine j_iload_n G d_M_letter_26 rfl ?_
    refine j_isub G d_M_letter_27 ?_
    refine j_imul G d_M_letter_28 ?_
    refine j_lshr G d_M_letter_29 ?_
    refine j_ldc2 G d_M_letter_30 wd_4_138 ?_
    refine j_land G d_M_letter_33 ?_
    refine j_l2i G d_M_letter_34 ?_
    refine j_goto (tgt := 39) G d_M_letter_35 rfl ?_
    obtain rfl := Option.some.inj hm
    refine j_lv [] rfl ?_
    exact hJ3
noncomputable def f_M_comesBefore (w : aw_W) (o : Option Nat) (p1 : Int32) (p2 : Int32) : Option (Int32) :=
  (aw_wh (σ := Int32) (τ := (Int32) ⊕ (Int32)) (fun s1 =>
    if (4 : Int32) ≤ s1 then
      some (.inr (.inl s1))
    else
      (aw_obj w o 7).bind fun v2 =>
      (f_M_letter w o p1 s1).bind fun v3 =>
      (aw_obj w o 7).bind fun v4 =>
      (f_M_letter w o p2 s1).bind fun v5 =>
      if v3 = v5 then
        some (.inl (s1 + 1))
      else
        (aw_obj w o 7).bind fun v6 =>
        (f_M_letter w o p1 s1).bind fun v7 =>
        (aw_obj w o 7).bind fun v8 =>
        (f_M_letter w o p2 s1).bind fun v9 =>
        (if v9 ≤ v7 then
            some (0 : Int32)
          else
            some (1 : Int32) : Option (Int32)).bind fun j10 =>
        (aw_zz j10).bind fun v11 =>
        some (.inr (.inr j10))) (0 : Int32)).bind fun e12 =>
  match e12 with
  | .inl s13 =>
    some (0 : Int32)
  | .inr r14 => some r14
abbrev rm_M_comesBefore : Room := { frames := 1, cells := 0, slots := 0, locals := 22 }
set_option maxRecDepth 100000 in
set_option maxHeartbeats 4000000 in
theorem c_M_comesBefore (l : Launch) (hl : l.stackTraces = false) (D : va_G) (dA : Nat → ClassId) (base : Nat) (w : aw_W) (o : Option Nat) (p1 : Int32) (p2 : Int32) (r : Int32) (hm : f_M_comesBefore w o p1 p2 = some r) : aj_Ct l D dA base m_M_comesBefore rm_M_comesBefore [aRf o, aI p1, aI p2] w (fun v w' => some (aI r) = v ∧ w = w') := by
  refine aj_enter hl (by decide) (Nat.le_of_ble_eq_true rfl) ?_
  intro Γ G E
  unfold f_M_comesBefore at hm
  refine j_iconst (v := 0) G d_M_comesBefore_0 (by decide) ?_
  refine j_istore_n G d_M_comesBefore_1 (by decide) ?_
  obtain ⟨e1, he1, ho1⟩ := Option.bind_eq_some_iff.mp hm
  clear hm
  refine j_lv [(0, aRf o), (1, aI p1), (2, aI p2), (3, aI (0 : Int32))] rfl ?_
  refine aw_wh_elim (fun (s : Int32) => aj_J Γ 4 (0, 0) 2 [(0, aRf o), (1, aI p1), (2, aI p2), (3, aI s)] [] w) ?_ he1
  intro s1 x1 hm hin1 hout1
  try dsimp only at hm ⊢
  refine j_iload_n G d_M_comesBefore_2 rfl ?_
  refine j_iconst (v := 4) G d_M_comesBefore_3 (by decide) ?_
  refine j_icmp_ge (tgt := 49) G d_M_comesBefore_4 rfl (fun hc => ?_) (fun hc => ?_)
  · rw [if_pos hc] at hm
    have q1 := hout1 _ (Option.some.inj hm).symm
    clear hin1 hout1
    subst q1
    clear hm
    have hm := ho1
    clear ho1
    try dsimp only at hm
    refine j_iconst (v := 0) G d_M_comesBefore_49 (by decide) ?_
    obtain rfl := Option.some.inj hm
    exact j_zret G E d_M_comesBefore_50 ⟨by decide, by decide⟩ (by decide) ⟨rfl, rfl⟩
  · rw [if_neg hc] at hm
    refine j_aload_n G d_M_comesBefore_7 rfl ?_
    refine j_iload_n G d_M_comesBefore_8 rfl ?_
    refine j_iload_n G d_M_comesBefore_9 rfl ?_
    obtain ⟨v2, hv2, hm⟩ := Option.bind_eq_some_iff.mp hm
    obtain ⟨v3, hv3, hm⟩ := Option.bind_eq_some_iff.mp hm
    refine j_callV (As := [aI p1, aI s1]) G d_M_comesBefore_10 (c_M_letter _ G.off _ _ _ _ _ _ _ _ hv3) mw_M_letter mi_M_letter lk_M_96 rfl hv2 rfl rfl (Nat.le_of_ble_eq_true rfl) ⟨by decide, by decide⟩ ⟨by decide, by decide⟩ (fun v9 w9 hp => ?_)
    obtain ⟨rfl, rfl⟩ := hp
    refine j_aload_n G d_M_comesBefore_13 rfl ?_
    refine j_iload_n G d_M_comesBefore_14 rfl ?_
    refine j_iload_n G d_M_comesBefore_15 rfl ?_
    obtain ⟨v4, hv4, hm⟩ := Option.bind_eq_some_iff.mp hm
    obtain ⟨v5, hv5, hm⟩ := Option.bind_eq_some_iff.mp hm
    refine j_callV (As := [aI p2, aI s1]) G d_M_comesBefore_16 (c_M_letter _ G.off _ _ _ _ _ _ _ _ hv5) mw_M_letter mi_M_letter lk_M_96 rfl hv4 rfl rfl (Nat.le_of_ble_eq_true rfl) ⟨by decide, by decide⟩ ⟨by decide, by decide⟩ (fun v9 w9 hp => ?_)
    obtain ⟨rfl, rfl⟩ := hp
    refine j_icmp_eq (tgt := 43) G d_M_comesBefore_19 rfl (fun hc => ?_) (fun hc => ?_)
    · rw [if_pos hc] at hm
      refine j_iinc (v := s1 + 1) G d_M_comesBefore_43 rfl (by first | rfl | decide) (by decide) ?_
      refine j_goto (tgt := 2) G d_M_comesBefore_46 rfl ?_
      refine j_lv [(0, aRf o), (1, aI p1), (2, aI p2), (3, aI (s1 + 1))] rfl ?_
      have z9 := hin1 _ (Option.some.inj hm).symm
      exact z9
    · rw [if_neg hc] at hm
      refine j_aload_n G d_M_comesBefore_22 rfl ?_
      refine j_iload_n G d_M_comesBefore_23 rfl ?_
      refine j_iload_n G d_M_comesBefore_24 rfl ?_
      obtain ⟨v6, hv6, hm⟩ := Option.bind_eq_some_iff.mp hm
      obtain ⟨v7, hv7, hm⟩ := Option.bind_eq_some_iff.mp hm
      refine j_callV (As := [aI p1, aI s1]) G d_M_comesBefore_25 (c_M_letter _ G.off _ _ _ _ _ _ _ _ hv7) mw_M_letter mi_M_letter lk_M_96 rfl hv6 rfl rfl (Nat.le_of_ble_eq_true rfl) ⟨by decide, by decide⟩ ⟨by decide, by decide⟩ (fun v9 w9 hp => ?_)
      obtain ⟨rfl, rfl⟩ := hp
      refine j_aload_n G d_M_comesBefore_28 rfl ?_
      refine j_iload_n G d_M_comesBefore_29 rfl ?_
      refine j_iload_n G d_M_comesBefore_30 rfl ?_
      obtain ⟨v8, hv8, hm⟩ := Option.bind_eq_some_iff.mp hm
      obtain ⟨v9, hv9, hm⟩ := Option.bind_eq_some_iff.mp hm
      refine j_callV (As := [aI p2, aI s1]) G d_M_comesBefore_31 (c_M_letter _ G.off _ _ _ _ _ _ _ _ hv9) mw_M_letter mi_M_letter lk_M_96 rfl hv8 rfl rfl (Nat.le_of_ble_eq_true rfl) ⟨by decide, by decide⟩ ⟨by decide, by decide⟩ (fun v9 w9 hp => ?_)
      obtain ⟨rfl, rfl⟩ := hp
      obtain ⟨j10, hj10, ho10⟩ := Option.bind_eq_some_iff.mp hm
      clear hm
      have hJ10 : aj_J Γ 4 (0, 0) 42 [] [aI j10] w := by
        clear hj10
        have hm := ho10
        clear ho10
        obtain ⟨v11, hv11, hm⟩ := Option.bind_eq_some_iff.mp hm
        have q1 := hout1 _ (Option.some.inj hm).symm
        clear hin1 hout1
        subst q1
        clear hm
        have hm := ho1
        clear ho1
        try dsimp only at hm
        obtain rfl := Option.some.inj hm
        exact j_zret G E d_M_comesBefore_42 ⟨by decide, by decide⟩ (aw_zz_some hv11) ⟨rfl, rfl⟩
      clear ho10
      have hm := hj10
      clear hj10
      refine j_icmp_ge (tgt := 41) G d_M_comesBefore_34 rfl (fun hc => ?_) (fun hc => ?_)
      · rw [if_pos hc] at hm
        refine j_iconst (v := 0) G d_M_comesBefore_41 (by decide) ?_
        obtain rfl := Option.some.inj hm
        refine j_lv [] rfl ?_
        exact hJ10
      · rw [if_neg hc] at hm
        refine j_iconst (v := 1) G d_M_comesBefore_37 (by decide) ?_
        refine j_goto (tgt := 42) G d_M_comesBefore_38 rfl ?_
        obtain rfl := Option.some.inj hm
        refine j_lv [] rfl ?_
        exact hJ10
noncomputable def f_M_ordered (w : aw_W) (o : Option Nat) (p1 : Int32) : Option (Int32) :=
  (aw_wh (σ := Int32) (τ := (Int32) ⊕ (Int32)) (fun s1 =>
    (aw_gI w o 7 15).bind fun v2 =>
    if v2 ≤ s1 then
      some (.inr (.inl s1))
    else
      (aw_wh (σ := Int32 × Int32) (τ := Int32 × Int32) (fun s3 =>
        (aw_gI w o 7 15).bind fun v4 =>
        if v4 ≤ s3.2 then
          some (.inr (s3.1, s3.2))
        else
          (aw_obj w o 7).bind fun v5 =>
          (f_M_comesBefore w o s3.2 s1).bind fun v6 =>
          (if v6 = 0 then
              some s3.1
            else
              some (s3.1 + (1 : Int32)) : Option (Int32)).bind fun j7 =>
          some (.inl (j7, s3.2 + 1))) ((0 : Int32), (0 : Int32))).bind fun e8 =>
      if e8.1 = p1 then
        some (.inr (.inr s1))
      else
        some (.inl (s1 + 1))) (0 : Int32)).bind fun e9 =>
  match e9 with
  | .inl s10 =>
    some (-1 : Int32)
  | .inr r11 => some r11
abbrev rm_M_ordered : Room := { frames := 2, cells := 0, slots := 0, locals := 45 }
set_option maxRecDepth 100000 in
set_option maxHeartbeats 4000000 in
theorem c_M_ordered (l : Launch) (hl : l.stackTraces = false) (D : va_G) (dA : Nat → ClassId) (base : Nat) (w : aw_W) (o : Option Nat) (p1 : Int32) (r : Int32) (hm : f_M_ordered w o p1 = some r) : aj_Ct l D dA base m_M_ordered rm_M_ordered [aRf o, aI p1] w (fun v w' => some (aI r) = v ∧ w = w') := by
  refine aj_enter hl (by decide) (Nat.le_of_ble_eq_true rfl) ?_
  intro Γ G E
  unfold f_M_ordered at hm
  refine j_iconst (v := 0) G d_M_ordered_0 (by decide) ?_
  refine j_istore_n G d_M_ordered_1 (by decide) ?_
  obtain ⟨e1, he1, ho1⟩ := Option.bind_eq_some_iff.mp hm
  clear hm
  refine j_lv [(0, aRf o), (1, aI p1), (2, aI (0 : Int32))] rfl ?_
  refine aw_wh_elim (fun (s : Int32) => aj_J Γ 5 (0, 0) 2 [(0, aRf o), (1, aI p1), (2, aI s)] [] w) ?_ he1
  intro s1 x1 hm hin1 hout1
  try dsimp only at hm ⊢
  refine j_iload_n G d_M_ordered_2 rfl ?_
  refine j_aload_n G d_M_ordered_3 rfl ?_
  obtain ⟨v2, hv2, hm⟩ := Option.bind_eq_some_iff.mp hm
  refine j_gI G d_M_ordered_4 fl_M_85 hv2 ?_
  refine j_icmp_ge (tgt := 61) G d_M_ordered_7 rfl (fun hc => ?_) (fun hc => ?_)
  · rw [if_pos hc] at hm
    have q1 := hout1 _ (Option.some.inj hm).symm
    clear hin1 hout1
    subst q1
    clear hm
    have hm := ho1
    clear ho1
    try dsimp only at hm
    refine j_iconst (v := -1) G d_M_ordered_61 (by decide) ?_
    obtain rfl := Option.some.inj hm
    exact j_iret G E d_M_ordered_62 ⟨by decide, by decide⟩ ⟨rfl, rfl⟩
  · rw [if_neg hc] at hm
    refine j_iconst (v := 0) G d_M_ordered_10 (by decide) ?_
    refine j_istore_n G d_M_ordered_11 (by decide) ?_
    refine j_iconst (v := 0) G d_M_ordered_12 (by decide) ?_
    refine j_istore G d_M_ordered_13 (by decide) ?_
    obtain ⟨e3, he3, ho3⟩ := Option.bind_eq_some_iff.mp hm
    clear hm
    refine j_lv [(0, aRf o), (1, aI p1), (2, aI s1), (3, aI (0 : Int32)), (4, aI (0 : Int32))] rfl ?_
    refine aw_wh_elim (fun (s : Int32 × Int32) => aj_J Γ 5 (0, 0) 15 [(0, aRf o), (1, aI p1), (2, aI s1), (3, aI s.1), (4, aI s.2)] [] w) ?_ he3
    intro s3 x3 hm hin3 hout3
    try dsimp only at hm ⊢
    refine j_iload G d_M_ordered_15 rfl ?_
    refine j_aload_n G d_M_ordered_17 rfl ?_
    obtain ⟨v4, hv4, hm⟩ := Option.bind_eq_some_iff.mp hm
    refine j_gI G d_M_ordered_18 fl_M_85 hv4 ?_
    refine j_icmp_ge (tgt := 48) G d_M_ordered_21 rfl (fun hc => ?_) (fun hc => ?_)
    · rw [if_pos hc] at hm
      have q3 := hout3 _ (Option.some.inj hm).symm
      clear hin3 hout3
      subst q3
      clear hm
      have hm := ho3
      clear ho3
      try dsimp only at hm
      refine j_iload_n G d_M_ordered_48 rfl ?_
      refine j_iload_n G d_M_ordered_49 rfl ?_
      refine j_icmp_ne (tgt := 55) G d_M_ordered_50 rfl (fun hc => ?_) (fun hc => ?_)
      · rw [if_neg hc] at hm
        refine j_iinc (v := s1 + 1) G d_M_ordered_55 rfl (by first | rfl | decide) (by decide) ?_
        refine j_goto (tgt := 2) G d_M_ordered_58 rfl ?_
        refine j_lv [(0, aRf o), (1, aI p1), (2, aI (s1 + 1))] rfl ?_
        have z9 := hin1 _ (Option.some.inj hm).symm
        exact z9
      · rw [if_pos hc] at hm
        refine j_iload_n G d_M_ordered_53 rfl ?_
        have q1 := hout1 _ (Option.some.inj hm).symm
        clear hin1 hout1
        subst q1
        clear hm
        have hm := ho1
        clear ho1
        try dsimp only at hm
        obtain rfl := Option.some.inj hm
        exact j_iret G E d_M_ordered_54 ⟨by decide, by decide⟩ ⟨rfl, rfl⟩
    · rw [if_neg hc] at hm
      refine j_aload_n G d_M_ordered_24 rfl ?_
      refine j_iload G d_M_ordered_25 rfl ?_
      refine j_iload_n G d_M_ordered_27 rfl ?_
      obtain ⟨v5, hv5, hm⟩ := Option.bind_eq_some_iff.mp hm
      obtain ⟨v6, hv6, hm⟩ := Option.bind_eq_some_iff.mp hm
      refine j_callV (As := [aI s3.2, aI s1]) G d_M_ordered_28 (c_M_comesBefore _ G.off _ _ _ _ _ _ _ _ hv6) mw_M_comesBefore mi_M_comesBefore lk_M_92 rfl hv5 rfl rfl (Nat.le_of_ble_eq_true rfl) ⟨by decide, by decide⟩ ⟨by decide, by decide⟩ (fun v9 w9 hp => ?_)
      obtain ⟨rfl, rfl⟩ := hp
      obtain ⟨j7, hj7, ho7⟩ := Option.bind_eq_some_iff.mp hm
      clear hm
      have hJ7 : aj_J Γ 5 (0, 0) 41 [(0, aRf o), (1, aI p1), (2, aI s1), (4, aI s3.2)] [aI j7] w := by
        clear hj7
        have hm := ho7
        clear ho7
        refine j_istore_n G d_M_ordered_41 (by decide) ?_
        refine j_iinc (v := s3.2 + 1) G d_M_ordered_42 rfl (by first | rfl | decide) (by decide) ?_
        refine j_goto (tgt := 15) G d_M_ordered_45 rfl ?_
        refine j_lv [(0, aRf o), (1, aI p1), (2, aI s1), (3, aI j7), (4, aI (s3.2 + 1))] rfl ?_
        have z9 := hin3 _ (Option.some.inj hm).symm
        exact z9
      clear ho7
      have hm := hj7
      clear hj7
      refine j_if_eq (tgt := 40) G d_M_ordered_31 rfl (fun hc => ?_) (fun hc => ?_)
      · rw [if_pos hc] at hm
        refine j_iload_n G d_M_ordered_40 rfl ?_
        obtain rfl := Option.some.inj hm
        refine j_lv [(0, aRf o), (1, aI p1), (2, aI s1), (4, aI s3.2)] rfl ?_
        exact hJ7
      · rw [if_neg hc] at hm
        refine j_iload_n G d_M_ordered_34 rfl ?_
        refine j_iconst (v := 1) G d_M_ordered_35 (by decide) ?_
        refine j_iadd G d_M_ordered_36 ?_
        refine j_goto (tgt := 41) G d_M_ordered_37 rfl ?_
        obtain rfl := Option.some.inj hm
        refine j_lv [(0, aRf o), (1, aI p1), (2, aI s1), (4, aI s3.2)] rfl ?_
        exact hJ7
noncomputable def f_M_full (w : aw_W) (o : Option Nat) (p1 : Int32) : Option (Int32) :=
  (aw_gI w o 7 1).bind fun v1 =>
  (if v1 = (6 : Int32) then
      (aw_gI w o 7 20).bind fun v2 =>
      if v2 = 0 then
        some (1 : Int32)
      else
        (aw_gR w o 7 3).bind fun v3 =>
        (aw_aI w v3 1 (5 : Int32)).bind fun v4 =>
        if (v4 + p1) ≤ (100 : Int32) then
          some (0 : Int32)
        else
          some (1 : Int32)
    else
      some (0 : Int32) : Option (Int32)).bind fun j5 =>
  (aw_zz j5).bind fun v6 =>
  some j5
abbrev rm_M_full : Room := { frames := 0, cells := 0, slots := 0, locals := 0 }
set_option maxRecDepth 100000 in
set_option maxHeartbeats 4000000 in
theorem c_M_full (l : Launch) (hl : l.stackTraces = false) (D : va_G) (dA : Nat → ClassId) (base : Nat) (w : aw_W) (o : Option Nat) (p1 : Int32) (r : Int32) (hm : f_M_full w o p1 = some r) : aj_Ct l D dA base m_M_full rm_M_full [aRf o, aI p1] w (fun v w' => some (aI r) = v ∧ w = w') := by
  refine aj_enter hl (by decide) (Nat.le_of_ble_eq_true rfl) ?_
  intro Γ G E
  unfold f_M_full at hm
  refine j_aload_n G d_M_full_0 rfl ?_
  obtain ⟨v1, hv1, hm⟩ := Option.bind_eq_some_iff.mp hm
  refine j_gI G d_M_full_1 fl_M_99 hv1 ?_
  refine j_bipush (v := 6) G d_M_full_4 (by decide) ?_
  obtain ⟨j2, hj2, ho2⟩ := Option.bind_eq_some_iff.mp hm
  clear hm
  have hJ2 : aj_J Γ 2 (0, 0) 34 [] [aI j2] w := by
    clear hj2
    have hm := ho2
    clear ho2
    obtain ⟨v3, hv3, hm⟩ := Option.bind_eq_some_iff.mp hm
    obtain rfl := Option.some.inj hm
    exact j_zret G E d_M_full_34 ⟨by decide, by decide⟩ (aw_zz_some hv3) ⟨rfl, rfl⟩
  clear ho2
  have hm := hj2
  clear hj2
  refine j_icmp_ne (tgt := 33) G d_M_full_6 rfl (fun hc => ?_) (fun hc => ?_)
  · rw [if_neg hc] at hm
    refine j_iconst (v := 0) G d_M_full_33 (by decide) ?_
    obtain rfl := Option.some.inj hm
    refine j_lv [] rfl ?_
    exact hJ2
  · rw [if_pos hc] at hm
    refine j_aload_n G d_M_full_9 rfl ?_
    obtain ⟨v4, hv4, hm⟩ := Option.bind_eq_some_iff.mp hm
    refine j_gI G d_M_full_10 fl_M_102 hv4 ?_
    refine j_if_eq (tgt := 29) G d_M_full_13 rfl (fun hc => ?_) (fun hc => ?_)
    · rw [if_pos hc] at hm
      refine j_iconst (v := 1) G d_M_full_29 (by decide) ?_
      refine j_goto (tgt := 34) G d_M_full_30 rfl ?_
      obtain rfl := Option.some.inj hm
      refine j_lv [] rfl ?_
      exact hJ2
    · rw [if_neg hc] at hm
      refine j_aload_n G d_M_full_16 rfl ?_
      obtain ⟨v5, hv5, hm⟩ := Option.bind_eq_some_iff.mp hm
      refine j_gR G d_M_full_17 fl_M_13 hv5 ?_
      refine j_iconst (v := 5) G d_M_full_20 (by decide) ?_
      obtain ⟨v6, hv6, hm⟩ := Option.bind_eq_some_iff.mp hm
      refine j_iald G d_M_full_21 hv6 ?_
      refine j_iload_n G d_M_full_22 rfl ?_
      refine j_iadd G d_M_full_23 ?_
      refine j_bipush (v := 100) G d_M_full_24 (by decide) ?_
      refine j_icmp_le (tgt := 33) G d_M_full_26 rfl (fun hc => ?_) (fun hc => ?_)
      · rw [if_pos hc] at hm
        refine j_iconst (v := 0) G d_M_full_33 (by decide) ?_
        obtain rfl := Option.some.inj hm
        refine j_lv [] rfl ?_
        exact hJ2
      · rw [if_neg hc] at hm
        refine j_iconst (v := 1) G d_M_full_29 (by decide) ?_
        refine j_goto (tgt := 34) G d_M_full_30 rfl ?_
        obtain rfl := Option.some.inj hm
        refine j_lv [] rfl ?_
        exact hJ2
noncomputable def f_M_putByte (w : aw_W) (o : Option Nat) (p1 : Int32) (p2 : Int32) : Option (aw_W) :=
  (aw_gR w o 7 5).bind fun v1 =>
  (aw_gR w o 7 3).bind fun v2 =>
  (aw_aI w v2 1 p1).bind fun v3 =>
  (aw_sI w v1 1 (((100 : Int32) * p1) + v3) p2).bind fun v4 =>
  (aw_gR v4 o 7 3).bind fun v5 =>
  (aw_aI v4 v5 1 p1).bind fun v6 =>
  (aw_sI v4 v5 1 p1 (v6 + (1 : Int32))).bind fun v7 =>
  some v7
abbrev rm_M_putByte : Room := { frames := 0, cells := 0, slots := 0, locals := 0 }
set_option maxRecDepth 100000 in
set_option maxHeartbeats 4000000 in
theorem c_M_putByte (l : Launch) (hl : l.stackTraces = false) (D : va_G) (dA : Nat → ClassId) (base : Nat) (w : aw_W) (o : Option Nat) (p1 : Int32) (p2 : Int32) (r : aw_W) (hm : f_M_putByte w o p1 p2 = some r) : aj_Ct l D dA base m_M_putByte rm_M_putByte [aRf o, aI p1, aI p2] w (fun v w' => none = v ∧ r = w') := by
  refine aj_enter hl (by decide) (Nat.le_of_ble_eq_true rfl) ?_
  intro Γ G E
  unfold f_M_putByte at hm
  refine j_aload_n G d_M_putByte_0 rfl ?_
  obtain ⟨v1, hv1, hm⟩ := Option.bind_eq_some_iff.mp hm
  refine j_gR G d_M_putByte_1 fl_M_19 hv1 ?_
  refine j_bipush (v := 100) G d_M_putByte_4 (by decide) ?_
  refine j_iload_n G d_M_putByte_6 rfl ?_
  refine j_imul G d_M_putByte_7 ?_
  refine j_aload_n G d_M_putByte_8 rfl ?_
  obtain ⟨v2, hv2, hm⟩ := Option.bind_eq_some_iff.mp hm
  refine j_gR G d_M_putByte_9 fl_M_13 hv2 ?_
  refine j_iload_n G d_M_putByte_12 rfl ?_
  obtain ⟨v3, hv3, hm⟩ := Option.bind_eq_some_iff.mp hm
  refine j_iald G d_M_putByte_13 hv3 ?_
  refine j_iadd G d_M_putByte_14 ?_
  refine j_iload_n G d_M_putByte_15 rfl ?_
  obtain ⟨v4, hv4, hm⟩ := Option.bind_eq_some_iff.mp hm
  refine j_iast G d_M_putByte_16 hv4 ?_
  refine j_aload_n G d_M_putByte_17 rfl ?_
  obtain ⟨v5, hv5, hm⟩ := Option.bind_eq_some_iff.mp hm
  refine j_gR G d_M_putByte_18 fl_M_13 hv5 ?_
  refine j_iload_n G d_M_putByte_21 rfl ?_
  refine j_dup2_11 G d_M_putByte_22 rfl rfl ?_
  obtain ⟨v6, hv6, hm⟩ := Option.bind_eq_some_iff.mp hm
  refine j_iald G d_M_putByte_23 hv6 ?_
  refine j_iconst (v := 1) G d_M_putByte_24 (by decide) ?_
  refine j_iadd G d_M_putByte_25 ?_
  obtain ⟨v7, hv7, hm⟩ := Option.bind_eq_some_iff.mp hm
  refine j_iast G d_M_putByte_26 hv7 ?_
  obtain rfl := Option.some.inj hm
  exact j_vret G E d_M_putByte_27 ⟨by decide, by decide⟩ ⟨rfl, rfl⟩
noncomputable def f_M_putNumber (w : aw_W) (o : Option Nat) (p1 : Int32) (p2 : Int64) (p3 : Int32) : Option (aw_W) :=
  (aw_wh (σ := Int32 × aw_W) (τ := Int32 × aw_W) (fun s1 =>
    if s1.1 < 0 then
      some (.inr (s1.1, s1.2))
    else
      (aw_obj s1.2 o 7).bind fun v2 =>
      (f_M_putByte s1.2 o p1 (((aj_lshr p2 ((8 : Int32) * s1.1)) &&& (255 : Int64)).toInt32)).bind fun v3 =>
      some (.inl (s1.1 + (-1), v3))) (p3 - (1 : Int32), w)).bind fun e4 =>
  some e4.2
abbrev rm_M_putNumber : Room := { frames := 1, cells := 0, slots := 0, locals := 22 }
set_option maxRecDepth 100000 in
set_option maxHeartbeats 4000000 in
theorem c_M_putNumber (l : Launch) (hl : l.stackTraces = false) (D : va_G) (dA : Nat → ClassId) (base : Nat) (w : aw_W) (o : Option Nat) (p1 : Int32) (p2 : Int64) (p3 : Int32) (r : aw_W) (hm : f_M_putNumber w o p1 p2 p3 = some r) : aj_Ct l D dA base m_M_putNumber rm_M_putNumber [aRf o, aI p1, aL p2, aI p3] w (fun v w' => none = v ∧ r = w') := by
  refine aj_enter hl (by decide) (Nat.le_of_ble_eq_true rfl) ?_
  intro Γ G E
  unfold f_M_putNumber at hm
  refine j_iload G d_M_putNumber_0 rfl ?_
  refine j_iconst (v := 1) G d_M_putNumber_2 (by decide) ?_
  refine j_isub G d_M_putNumber_3 ?_
  refine j_istore G d_M_putNumber_4 (by decide) ?_
  obtain ⟨e1, he1, ho1⟩ := Option.bind_eq_some_iff.mp hm
  clear hm
  refine j_lv [(0, aRf o), (1, aI p1), (2, aL p2), (5, aI (p3 - (1 : Int32)))] rfl ?_
  refine aw_wh_elim (fun (s : Int32 × aw_W) => aj_J Γ 6 (0, 0) 6 [(0, aRf o), (1, aI p1), (2, aL p2), (5, aI s.1)] [] s.2) ?_ he1
  intro s1 x1 hm hin1 hout1
  try dsimp only at hm ⊢
  refine j_iload G d_M_putNumber_6 rfl ?_
  refine j_if_lt (tgt := 34) G d_M_putNumber_8 rfl (fun hc => ?_) (fun hc => ?_)
  · rw [if_pos hc] at hm
    have q1 := hout1 _ (Option.some.inj hm).symm
    clear hin1 hout1
    subst q1
    clear hm
    have hm := ho1
    clear ho1
    try dsimp only at hm
    obtain rfl := Option.some.inj hm
    exact j_vret G E d_M_putNumber_34 ⟨by decide, by decide⟩ ⟨rfl, rfl⟩
  · rw [if_neg hc] at hm
    refine j_aload_n G d_M_putNumber_11 rfl ?_
    refine j_iload_n G d_M_putNumber_12 rfl ?_
    refine j_lload_n G d_M_putNumber_13 rfl ?_
    refine j_bipush (v := 8) G d_M_putNumber_14 (by decide) ?_
    refine j_iload G d_M_putNumber_16 rfl ?_
    refine j_imul G d_M_putNumber_18 ?_
    refine j_lshr G d_M_putNumber_19 ?_
    refine j_ldc2 G d_M_putNumber_20 wd_4_138 ?_
    refine j_land G d_M_putNumber_23 ?_
    refine j_l2i G d_M_putNumber_24 ?_
    obtain ⟨v2, hv2, hm⟩ := Option.bind_eq_some_iff.mp hm
    obtain ⟨v3, hv3, hm⟩ := Option.bind_eq_some_iff.mp hm
    refine j_callV (As := [aI p1, aI (((aj_lshr p2 ((8 : Int32) * s1.1)) &&& (255 : Int64)).toInt32)]) G d_M_putNumber_25 (c_M_putByte _ G.off _ _ _ _ _ _ _ _ hv3) mw_M_putByte mi_M_putByte lk_M_106 rfl hv2 rfl rfl (Nat.le_of_ble_eq_true rfl) ⟨by decide, by decide⟩ ⟨by decide, by decide⟩ (fun v9 w9 hp => ?_)
    obtain ⟨rfl, rfl⟩ := hp
    refine j_iinc (v := s1.1 + (-1)) G d_M_putNumber_28 rfl (by first | rfl | decide) (by decide) ?_
    refine j_goto (tgt := 6) G d_M_putNumber_31 rfl ?_
    refine j_lv [(0, aRf o), (1, aI p1), (2, aL p2), (5, aI (s1.1 + (-1)))] rfl ?_
    have z9 := hin1 _ (Option.some.inj hm).symm
    exact z9
noncomputable def f_M_append (w : aw_W) (o : Option Nat) (p1 : Int64) (p2 : Int32) (p3 : Int64) (p4 : Int32) : Option (aw_W) :=
  (f_M_lengthOf w p2 p4).bind fun v1 =>
  (aw_gI w o 7 20).bind fun v2 =>
  (if v2 = 0 then
      (aw_gI w o 7 20).bind fun v3 =>
      (if v3 = 0 then
          some w
        else
          (aw_gR w o 7 4).bind fun v4 =>
          (aw_gI w o 7 1).bind fun v5 =>
          (aw_gR w o 7 3).bind fun v6 =>
          (aw_gI w o 7 1).bind fun v7 =>
          (aw_aI w v6 1 (v7 - (1 : Int32))).bind fun v8 =>
          (aw_sI w v4 1 (v5 - (1 : Int32)) v8).bind fun v9 =>
          some v9 : Option (aw_W)).bind fun j10 =>
      (aw_pV j10 o 7 20 (.int (1 : Int32))).bind fun v11 =>
      (aw_gI v11 o 7 1).bind fun v12 =>
      (aw_obj v11 o 7).bind fun v13 =>
      (f_M_clearRow v11 o v12).bind fun v14 =>
      (aw_gI v14 o 7 22).bind fun v15 =>
      (aw_pV v14 o 7 22 (.int (v15 + (1 : Int32)))).bind fun v16 =>
      (aw_gR v16 o 7 2).bind fun v17 =>
      (aw_gI v16 o 7 1).bind fun v18 =>
      (aw_gI v16 o 7 22).bind fun v19 =>
      (aw_sI v16 v17 1 v18 v19).bind fun v20 =>
      (aw_gI v20 o 7 1).bind fun v21 =>
      (aw_pV v20 o 7 1 (.int (v21 + (1 : Int32)))).bind fun v22 =>
      some v22
    else
      (aw_gR w o 7 3).bind fun v23 =>
      (aw_gI w o 7 1).bind fun v24 =>
      (aw_aI w v23 1 (v24 - (1 : Int32))).bind fun v25 =>
      if (v25 + v1) ≤ (100 : Int32) then
        some w
      else
        (aw_gI w o 7 20).bind fun v26 =>
        (if v26 = 0 then
            some w
          else
            (aw_gR w o 7 4).bind fun v27 =>
            (aw_gI w o 7 1).bind fun v28 =>
            (aw_gR w o 7 3).bind fun v29 =>
            (aw_gI w o 7 1).bind fun v30 =>
            (aw_aI w v29 1 (v30 - (1 : Int32))).bind fun v31 =>
            (aw_sI w v27 1 (v28 - (1 : Int32)) v31).bind fun v32 =>
            some v32 : Option (aw_W)).bind fun j33 =>
        (aw_pV j33 o 7 20 (.int (1 : Int32))).bind fun v34 =>
        (aw_gI v34 o 7 1).bind fun v35 =>
        (aw_obj v34 o 7).bind fun v36 =>
        (f_M_clearRow v34 o v35).bind fun v37 =>
        (aw_gI v37 o 7 22).bind fun v38 =>
        (aw_pV v37 o 7 22 (.int (v38 + (1 : Int32)))).bind fun v39 =>
        (aw_gR v39 o 7 2).bind fun v40 =>
        (aw_gI v39 o 7 1).bind fun v41 =>
        (aw_gI v39 o 7 22).bind fun v42 =>
        (aw_sI v39 v40 1 v41 v42).bind fun v43 =>
        (aw_gI v43 o 7 1).bind fun v44 =>
        (aw_pV v43 o 7 1 (.int (v44 + (1 : Int32)))).bind fun v45 =>
        some v45 : Option (aw_W)).bind fun j46 =>
  (aw_gI j46 o 7 1).bind fun v47 =>
  (aw_gR j46 o 7 3).bind fun v48 =>
  (aw_aI j46 v48 1 (v47 - (1 : Int32))).bind fun v49 =>
  (aw_obj j46 o 7).bind fun v50 =>
  (f_M_note j46 o (v47 - (1 : Int32)) v49 p2 p4).bind fun v51 =>
  (aw_obj v51 o 7).bind fun v52 =>
  (f_M_putNumber v51 o (v47 - (1 : Int32)) (0 : Int64) (4 : Int32)).bind fun v53 =>
  (aw_gI v53 o 7 23).bind fun v54 =>
  (aw_obj v53 o 7).bind fun v55 =>
  (f_M_putNumber v53 o (v47 - (1 : Int32)) v54.toInt64 (2 : Int32)).bind fun v56 =>
  (aw_obj v56 o 7).bind fun v57 =>
  (f_M_putByte v56 o (v47 - (1 : Int32)) p2).bind fun v58 =>
  (aw_obj v58 o 7).bind fun v59 =>
  (f_M_putByte v58 o (v47 - (1 : Int32)) p4).bind fun v60 =>
  (aw_obj v60 o 7).bind fun v61 =>
  (f_M_putNumber v60 o (v47 - (1 : Int32)) p1 p2).bind fun v62 =>
  (if (255 : Int32) ≤ p4 then
      some v62
    else
      (aw_obj v62 o 7).bind fun v63 =>
      (f_M_putNumber v62 o (v47 - (1 : Int32)) p3 p4).bind fun v64 =>
      some v64 : Option (aw_W)).bind fun j65 =>
  (aw_gR j65 o 7 5).bind fun v66 =>
  (aw_gR j65 o 7 3).bind fun v67 =>
  (aw_aI j65 v67 1 (v47 - (1 : Int32))).bind fun v68 =>
  (f_M_sumOf j65 v66 ((((100 : Int32) * (v47 - (1 : Int32))) + v49) + (4 : Int32)) (((100 : Int32) * (v47 - (1 : Int32))) + v68)).bind fun v69 =>
  (aw_wh (σ := Int32 × aw_W) (τ := Int32 × aw_W) (fun s70 =>
    if (4 : Int32) ≤ s70.1 then
      some (.inr (s70.1, s70.2))
    else
      (aw_gR s70.2 o 7 5).bind fun v71 =>
      (aw_sI s70.2 v71 1 ((((100 : Int32) * (v47 - (1 : Int32))) + v49) + s70.1) (((aj_lshr v69 ((8 : Int32) * ((3 : Int32) - s70.1))) &&& (255 : Int64)).toInt32)).bind fun v72 =>
      some (.inl (s70.1 + 1, v72))) ((0 : Int32), j65)).bind fun e73 =>
  (aw_gI e73.2 o 7 23).bind fun v74 =>
  (aw_pV e73.2 o 7 23 (.int ((v74 + (1 : Int32)) - (v74 + (1 : Int32)) / (65536 : Int32) * (65536 : Int32)))).bind fun v75 =>
  some v75
abbrev rm_M_append : Room := { frames := 2, cells := 0, slots := 0, locals := 50 }
set_option maxRecDepth 100000 in
set_option maxHeartbeats 4000000 in
theorem c_M_append (l : Launch) (hl : l.stackTraces = false) (D : va_G) (dA : Nat → ClassId) (base : Nat) (w : aw_W) (o : Option Nat) (p1 : Int64) (p2 : Int32) (p3 : Int64) (p4 : Int32) (r : aw_W) (hm : f_M_append w o p1 p2 p3 p4 = some r) : aj_Ct l D dA base m_M_append rm_M_append [aRf o, aL p1, aI p2, aL p3, aI p4] w (fun v w' => none = v ∧ r = w') := by
  refine aj_enter hl (by decide) (Nat.le_of_ble_eq_true rfl) ?_
  intro Γ G E
  unfold f_M_append at hm
  refine j_iload_n G d_M_append_0 rfl ?_
  refine j_iload G d_M_append_1 rfl ?_
  obtain ⟨v1, hv1, hm⟩ := Option.bind_eq_some_iff.mp hm
  refine j_callS (As := [aI p2, aI p4]) G d_M_append_3 (c_M_lengthOf _ G.off _ _ _ _ _ _ _ hv1) mw_M_lengthOf ms_M_lengthOf lk_M_81 rfl rfl (Nat.le_of_ble_eq_true rfl) ⟨by decide, by decide⟩ ⟨by decide, by decide⟩ (fun v9 w9 hp => ?_)
  obtain ⟨rfl, rfl⟩ := hp
  refine j_istore G d_M_append_6 (by decide) ?_
  refine j_aload_n G d_M_append_8 rfl ?_
  obtain ⟨v2, hv2, hm⟩ := Option.bind_eq_some_iff.mp hm
  refine j_gI G d_M_append_9 fl_M_102 hv2 ?_
  obtain ⟨j3, hj3, ho3⟩ := Option.bind_eq_some_iff.mp hm
  clear hm
  have hJ3 : aj_J Γ 13 (0, 0) 109 [(0, aRf o), (1, aL p1), (3, aI p2), (4, aL p3), (6, aI p4)] [] j3 := by
    clear hj3
    have hm := ho3
    clear ho3
    refine j_aload_n G d_M_append_109 rfl ?_
    obtain ⟨v4, hv4, hm⟩ := Option.bind_eq_some_iff.mp hm
    refine j_gI G d_M_append_110 fl_M_99 hv4 ?_
    refine j_iconst (v := 1) G d_M_append_113 (by decide) ?_
    refine j_isub G d_M_append_114 ?_
    refine j_istore G d_M_append_115 (by decide) ?_
    refine j_aload_n G d_M_append_117 rfl ?_
    obtain ⟨v5, hv5, hm⟩ := Option.bind_eq_some_iff.mp hm
    refine j_gR G d_M_append_118 fl_M_13 hv5 ?_
    refine j_iload G d_M_append_121 rfl ?_
    obtain ⟨v6, hv6, hm⟩ := Option.bind_eq_some_iff.mp hm
    refine j_iald G d_M_append_123 hv6 ?_
    refine j_istore G d_M_append_124 (by decide) ?_
    refine j_aload_n G d_M_append_126 rfl ?_
    refine j_iload G d_M_append_127 rfl ?_
    refine j_iload G d_M_append_129 rfl ?_
    refine j_iload_n G d_M_append_131 rfl ?_
    refine j_iload G d_M_append_132 rfl ?_
    obtain ⟨v7, hv7, hm⟩ := Option.bind_eq_some_iff.mp hm
    obtain ⟨v8, hv8, hm⟩ := Option.bind_eq_some_iff.mp hm
    refine j_callV (As := [aI (v4 - (1 : Int32)), aI v6, aI p2, aI p4]) G d_M_append_134 (c_M_note _ G.off _ _ _ _ _ _ _ _ _ _ hv8) mw_M_note mi_M_note lk_M_117 rfl hv7 rfl rfl (Nat.le_of_ble_eq_true rfl) ⟨by decide, by decide⟩ ⟨by decide, by decide⟩ (fun v9 w9 hp => ?_)
    obtain ⟨rfl, rfl⟩ := hp
    refine j_aload_n G d_M_append_137 rfl ?_
    refine j_iload G d_M_append_138 rfl ?_
    refine j_lconst (v := 0) G d_M_append_140 (by decide) ?_
    refine j_iconst (v := 4) G d_M_append_141 (by decide) ?_
    obtain ⟨v9, hv9, hm⟩ := Option.bind_eq_some_iff.mp hm
    obtain ⟨v10, hv10, hm⟩ := Option.bind_eq_some_iff.mp hm
    refine j_callV (As := [aI (v4 - (1 : Int32)), aL (0 : Int64), aI (4 : Int32)]) G d_M_append_142 (c_M_putNumber _ G.off _ _ _ _ _ _ _ _ _ hv10) mw_M_putNumber mi_M_putNumber lk_M_121 rfl hv9 rfl rfl (Nat.le_of_ble_eq_true rfl) ⟨by decide, by decide⟩ ⟨by decide, by decide⟩ (fun v9 w9 hp => ?_)
    obtain ⟨rfl, rfl⟩ := hp
    refine j_aload_n G d_M_append_145 rfl ?_
    refine j_iload G d_M_append_146 rfl ?_
    refine j_aload_n G d_M_append_148 rfl ?_
    obtain ⟨v11, hv11, hm⟩ := Option.bind_eq_some_iff.mp hm
    refine j_gI G d_M_append_149 fl_M_125 hv11 ?_
    refine j_i2l G d_M_append_152 ?_
    refine j_iconst (v := 2) G d_M_append_153 (by decide) ?_
    obtain ⟨v12, hv12, hm⟩ := Option.bind_eq_some_iff.mp hm
    obtain ⟨v13, hv13, hm⟩ := Option.bind_eq_some_iff.mp hm
    refine j_callV (As := [aI (v4 - (1 : Int32)), aL v11.toInt64, aI (2 : Int32)]) G d_M_append_154 (c_M_putNumber _ G.off _ _ _ _ _ _ _ _ _ hv13) mw_M_putNumber mi_M_putNumber lk_M_121 rfl hv12 rfl rfl (Nat.le_of_ble_eq_true rfl) ⟨by decide, by decide⟩ ⟨by decide, by decide⟩ (fun v9 w9 hp => ?_)
    obtain ⟨rfl, rfl⟩ := hp
    refine j_aload_n G d_M_append_157 rfl ?_
    refine j_iload G d_M_append_158 rfl ?_
    refine j_iload_n G d_M_append_160 rfl ?_
    obtain ⟨v14, hv14, hm⟩ := Option.bind_eq_some_iff.mp hm
    obtain ⟨v15, hv15, hm⟩ := Option.bind_eq_some_iff.mp hm
    refine j_callV (As := [aI (v4 - (1 : Int32)), aI p2]) G d_M_append_161 (c_M_putByte _ G.off _ _ _ _ _ _ _ _ hv15) mw_M_putByte mi_M_putByte lk_M_106 rfl hv14 rfl rfl (Nat.le_of_ble_eq_true rfl) ⟨by decide, by decide⟩ ⟨by decide, by decide⟩ (fun v9 w9 hp => ?_)
    obtain ⟨rfl, rfl⟩ := hp
    refine j_aload_n G d_M_append_164 rfl ?_
    refine j_iload G d_M_append_165 rfl ?_
    refine j_iload G d_M_append_167 rfl ?_
    obtain ⟨v16, hv16, hm⟩ := Option.bind_eq_some_iff.mp hm
    obtain ⟨v17, hv17, hm⟩ := Option.bind_eq_some_iff.mp hm
    refine j_callV (As := [aI (v4 - (1 : Int32)), aI p4]) G d_M_append_169 (c_M_putByte _ G.off _ _ _ _ _ _ _ _ hv17) mw_M_putByte mi_M_putByte lk_M_106 rfl hv16 rfl rfl (Nat.le_of_ble_eq_true rfl) ⟨by decide, by decide⟩ ⟨by decide, by decide⟩ (fun v9 w9 hp => ?_)
    obtain ⟨rfl, rfl⟩ := hp
    refine j_aload_n G d_M_append_172 rfl ?_
    refine j_iload G d_M_append_173 rfl ?_
    refine j_lload_n G d_M_append_175 rfl ?_
    refine j_iload_n G d_M_append_176 rfl ?_
    obtain ⟨v18, hv18, hm⟩ := Option.bind_eq_some_iff.mp hm
    obtain ⟨v19, hv19, hm⟩ := Option.bind_eq_some_iff.mp hm
    refine j_callV (As := [aI (v4 - (1 : Int32)), aL p1, aI p2]) G d_M_append_177 (c_M_putNumber _ G.off _ _ _ _ _ _ _ _ _ hv19) mw_M_putNumber mi_M_putNumber lk_M_121 rfl hv18 rfl rfl (Nat.le_of_ble_eq_true rfl) ⟨by decide, by decide⟩ ⟨by decide, by decide⟩ (fun v9 w9 hp => ?_)
    obtain ⟨rfl, rfl⟩ := hp
    refine j_iload G d_M_append_180 rfl ?_
    refine j_sipush (v := 255) G d_M_append_182 (by decide) ?_
    obtain ⟨j20, hj20, ho20⟩ := Option.bind_eq_some_iff.mp hm
    clear hm
    have hJ20 : aj_J Γ 13 (0, 0) 198 [(0, aRf o), (8, aI (v4 - (1 : Int32))), (9, aI v6)] [] j20 := by
      clear hj20
      have hm := ho20
      clear ho20
      refine j_aload_n G d_M_append_198 rfl ?_
      obtain ⟨v21, hv21, hm⟩ := Option.bind_eq_some_iff.mp hm
      refine j_gR G d_M_append_199 fl_M_19 hv21 ?_
      refine j_bipush (v := 100) G d_M_append_202 (by decide) ?_
      refine j_iload G d_M_append_204 rfl ?_
      refine j_imul G d_M_append_206 ?_
      refine j_iload G d_M_append_207 rfl ?_
      refine j_iadd G d_M_append_209 ?_
      refine j_iconst (v := 4) G d_M_append_210 (by decide) ?_
      refine j_iadd G d_M_append_211 ?_
      refine j_bipush (v := 100) G d_M_append_212 (by decide) ?_
      refine j_iload G d_M_append_214 rfl ?_
      refine j_imul G d_M_append_216 ?_
      refine j_aload_n G d_M_append_217 rfl ?_
      obtain ⟨v22, hv22, hm⟩ := Option.bind_eq_some_iff.mp hm
      refine j_gR G d_M_append_218 fl_M_13 hv22 ?_
      refine j_iload G d_M_append_221 rfl ?_
      obtain ⟨v23, hv23, hm⟩ := Option.bind_eq_some_iff.mp hm
      refine j_iald G d_M_append_223 hv23 ?_
      refine j_iadd G d_M_append_224 ?_
      obtain ⟨v24, hv24, hm⟩ := Option.bind_eq_some_iff.mp hm
      refine j_callS (As := [aRf v21, aI ((((100 : Int32) * (v4 - (1 : Int32))) + v6) + (4 : Int32)), aI (((100 : Int32) * (v4 - (1 : Int32))) + v23)]) G d_M_append_225 (c_M_sumOf _ G.off _ _ _ _ _ _ _ _ hv24) mw_M_sumOf ms_M_sumOf lk_M_128 rfl rfl (Nat.le_of_ble_eq_true rfl) ⟨by decide, by decide⟩ ⟨by decide, by decide⟩ (fun v9 w9 hp => ?_)
      obtain ⟨rfl, rfl⟩ := hp
      refine j_lstore G d_M_append_228 (by decide) ?_
      refine j_iconst (v := 0) G d_M_append_230 (by decide) ?_
      refine j_istore G d_M_append_231 (by decide) ?_
      obtain ⟨e25, he25, ho25⟩ := Option.bind_eq_some_iff.mp hm
      clear hm
      refine j_lv [(0, aRf o), (8, aI (v4 - (1 : Int32))), (9, aI v6), (10, aL v24), (12, aI (0 : Int32))] rfl ?_
      refine aw_wh_elim (fun (s : Int32 × aw_W) => aj_J Γ 13 (0, 0) 233 [(0, aRf o), (8, aI (v4 - (1 : Int32))), (9, aI v6), (10, aL v24), (12, aI s.1)] [] s.2) ?_ he25
      intro s25 x25 hm hin25 hout25
      try dsimp only at hm ⊢
      refine j_iload G d_M_append_233 rfl ?_
      refine j_iconst (v := 4) G d_M_append_235 (by decide) ?_
      refine j_icmp_ge (tgt := 276) G d_M_append_236 rfl (fun hc => ?_) (fun hc => ?_)
      · rw [if_pos hc] at hm
        have q25 := hout25 _ (Option.some.inj hm).symm
        clear hin25 hout25
        subst q25
        clear hm
        have hm := ho25
        clear ho25
        try dsimp only at hm
        refine j_aload_n G d_M_append_276 rfl ?_
        refine j_aload_n G d_M_append_277 rfl ?_
        obtain ⟨v26, hv26, hm⟩ := Option.bind_eq_some_iff.mp hm
        refine j_gI G d_M_append_278 fl_M_125 hv26 ?_
        refine j_iconst (v := 1) G d_M_append_281 (by decide) ?_
        refine j_iadd G d_M_append_282 ?_
        refine j_ldc G d_M_append_283 wd_4_152 ?_
        refine j_irem G d_M_append_285 (by decide) ?_
        obtain ⟨v27, hv27, hm⟩ := Option.bind_eq_some_iff.mp hm
        refine j_pV (ty := aY_M 23) G d_M_append_286 fl_M_125 ac_M (aw_T_of_M 23 (by decide) rfl) rfl rfl hv27 ?_
        obtain rfl := Option.some.inj hm
        exact j_vret G E d_M_append_289 ⟨by decide, by decide⟩ ⟨rfl, rfl⟩
      · rw [if_neg hc] at hm
        refine j_aload_n G d_M_append_239 rfl ?_
        obtain ⟨v28, hv28, hm⟩ := Option.bind_eq_some_iff.mp hm
        refine j_gR G d_M_append_240 fl_M_19 hv28 ?_
        refine j_bipush (v := 100) G d_M_append_243 (by decide) ?_
        refine j_iload G d_M_append_245 rfl ?_
        refine j_imul G d_M_append_247 ?_
        refine j_iload G d_M_append_248 rfl ?_
        refine j_iadd G d_M_append_250 ?_
        refine j_iload G d_M_append_251 rfl ?_
        refine j_iadd G d_M_append_253 ?_
        refine j_lload G d_M_append_254 rfl ?_
        refine j_bipush (v := 8) G d_M_append_256 (by decide) ?_
        refine j_iconst (v := 3) G d_M_append_258 (by decide) ?_
        refine j_iload G d_M_append_259 rfl ?_
        refine j_isub G d_M_append_261 ?_
        refine j_imul G d_M_append_262 ?_
        refine j_lshr G d_M_append_263 ?_
        refine j_ldc2 G d_M_append_264 wd_4_138 ?_
        refine j_land G d_M_append_267 ?_
        refine j_l2i G d_M_append_268 ?_
        obtain ⟨v29, hv29, hm⟩ := Option.bind_eq_some_iff.mp hm
        refine j_iast G d_M_append_269 hv29 ?_
        refine j_iinc (v := s25.1 + 1) G d_M_append_270 rfl (by first | rfl | decide) (by decide) ?_
        refine j_goto (tgt := 233) G d_M_append_273 rfl ?_
        refine j_lv [(0, aRf o), (8, aI (v4 - (1 : Int32))), (9, aI v6), (10, aL v24), (12, aI (s25.1 + 1))] rfl ?_
        have z9 := hin25 _ (Option.some.inj hm).symm
        exact z9
    clear ho20
    have hm := hj20
    clear hj20
    refine j_icmp_ge (tgt := 198) G d_M_append_185 rfl (fun hc => ?_) (fun hc => ?_)
    · rw [if_pos hc] at hm
      obtain rfl := Option.some.inj hm
      refine j_lv [(0, aRf o), (8, aI (v4 - (1 : Int32))), (9, aI v6)] rfl ?_
      exact hJ20
    · rw [if_neg hc] at hm
      refine j_aload_n G d_M_append_188 rfl ?_
      refine j_iload G d_M_append_189 rfl ?_
      refine j_lload G d_M_append_191 rfl ?_
      refine j_iload G d_M_append_193 rfl ?_
      obtain ⟨v30, hv30, hm⟩ := Option.bind_eq_some_iff.mp hm
      obtain ⟨v31, hv31, hm⟩ := Option.bind_eq_some_iff.mp hm
      refine j_callV (As := [aI (v4 - (1 : Int32)), aL p3, aI p4]) G d_M_append_195 (c_M_putNumber _ G.off _ _ _ _ _ _ _ _ _ hv31) mw_M_putNumber mi_M_putNumber lk_M_121 rfl hv30 rfl rfl (Nat.le_of_ble_eq_true rfl) ⟨by decide, by decide⟩ ⟨by decide, by decide⟩ (fun v9 w9 hp => ?_)
      obtain ⟨rfl, rfl⟩ := hp
      obtain rfl := Option.some.inj hm
      refine j_lv [(0, aRf o), (8, aI (v4 - (1 : Int32))), (9, aI v6)] rfl ?_
      exact hJ20
  clear ho3
  have hm := hj3
  clear hj3
  refine j_if_eq (tgt := 34) G d_M_append_12 rfl (fun hc => ?_) (fun hc => ?_)
  · rw [if_pos hc] at hm
    refine j_aload_n G d_M_append_34 rfl ?_
    obtain ⟨v32, hv32, hm⟩ := Option.bind_eq_some_iff.mp hm
    refine j_gI G d_M_append_35 fl_M_102 hv32 ?_
    obtain ⟨j33, hj33, ho33⟩ := Option.bind_eq_some_iff.mp hm
    clear hm
    have hJ33 : aj_J Γ 13 (0, 0) 63 [(0, aRf o), (1, aL p1), (3, aI p2), (4, aL p3), (6, aI p4)] [] j33 := by
      clear hj33
      have hm := ho33
      clear ho33
      refine j_aload_n G d_M_append_63 rfl ?_
      refine j_iconst (v := 1) G d_M_append_64 (by decide) ?_
      obtain ⟨v34, hv34, hm⟩ := Option.bind_eq_some_iff.mp hm
      refine j_pV (ty := aY_M 20) G d_M_append_65 fl_M_102 ac_M (aw_T_of_M 20 (by decide) rfl) (by decide) (by decide) hv34 ?_
      refine j_aload_n G d_M_append_68 rfl ?_
      refine j_aload_n G d_M_append_69 rfl ?_
      obtain ⟨v35, hv35, hm⟩ := Option.bind_eq_some_iff.mp hm
      refine j_gI G d_M_append_70 fl_M_99 hv35 ?_
      obtain ⟨v36, hv36, hm⟩ := Option.bind_eq_some_iff.mp hm
      obtain ⟨v37, hv37, hm⟩ := Option.bind_eq_some_iff.mp hm
      refine j_callV (As := [aI v35]) G d_M_append_73 (c_M_clearRow _ G.off _ _ _ _ _ _ _ hv37) mw_M_clearRow mi_M_clearRow lk_M_110 rfl hv36 rfl rfl (Nat.le_of_ble_eq_true rfl) ⟨by decide, by decide⟩ ⟨by decide, by decide⟩ (fun v9 w9 hp => ?_)
      obtain ⟨rfl, rfl⟩ := hp
      refine j_aload_n G d_M_append_76 rfl ?_
      refine j_dup G d_M_append_77 rfl ?_
      obtain ⟨v38, hv38, hm⟩ := Option.bind_eq_some_iff.mp hm
      refine j_gI G d_M_append_78 fl_M_114 hv38 ?_
      refine j_iconst (v := 1) G d_M_append_81 (by decide) ?_
      refine j_iadd G d_M_append_82 ?_
      obtain ⟨v39, hv39, hm⟩ := Option.bind_eq_some_iff.mp hm
      refine j_pV (ty := aY_M 22) G d_M_append_83 fl_M_114 ac_M (aw_T_of_M 22 (by decide) rfl) rfl rfl hv39 ?_
      refine j_aload_n G d_M_append_86 rfl ?_
      obtain ⟨v40, hv40, hm⟩ := Option.bind_eq_some_iff.mp hm
      refine j_gR G d_M_append_87 fl_M_7 hv40 ?_
      refine j_aload_n G d_M_append_90 rfl ?_
      obtain ⟨v41, hv41, hm⟩ := Option.bind_eq_some_iff.mp hm
      refine j_gI G d_M_append_91 fl_M_99 hv41 ?_
      refine j_aload_n G d_M_append_94 rfl ?_
      obtain ⟨v42, hv42, hm⟩ := Option.bind_eq_some_iff.mp hm
      refine j_gI G d_M_append_95 fl_M_114 hv42 ?_
      obtain ⟨v43, hv43, hm⟩ := Option.bind_eq_some_iff.mp hm
      refine j_iast G d_M_append_98 hv43 ?_
      refine j_aload_n G d_M_append_99 rfl ?_
      refine j_dup G d_M_append_100 rfl ?_
      obtain ⟨v44, hv44, hm⟩ := Option.bind_eq_some_iff.mp hm
      refine j_gI G d_M_append_101 fl_M_99 hv44 ?_
      refine j_iconst (v := 1) G d_M_append_104 (by decide) ?_
      refine j_iadd G d_M_append_105 ?_
      obtain ⟨v45, hv45, hm⟩ := Option.bind_eq_some_iff.mp hm
      refine j_pV (ty := aY_M 1) G d_M_append_106 fl_M_99 ac_M (aw_T_of_M 1 (by decide) rfl) rfl rfl hv45 ?_
      obtain rfl := Option.some.inj hm
      refine j_lv [(0, aRf o), (1, aL p1), (3, aI p2), (4, aL p3), (6, aI p4)] rfl ?_
      exact hJ3
    clear ho33
    have hm := hj33
    clear hj33
    refine j_if_eq (tgt := 63) G d_M_append_38 rfl (fun hc => ?_) (fun hc => ?_)
    · rw [if_pos hc] at hm
      obtain rfl := Option.some.inj hm
      refine j_lv [(0, aRf o), (1, aL p1), (3, aI p2), (4, aL p3), (6, aI p4)] rfl ?_
      exact hJ33
    · rw [if_neg hc] at hm
      refine j_aload_n G d_M_append_41 rfl ?_
      obtain ⟨v46, hv46, hm⟩ := Option.bind_eq_some_iff.mp hm
      refine j_gR G d_M_append_42 fl_M_16 hv46 ?_
      refine j_aload_n G d_M_append_45 rfl ?_
      obtain ⟨v47, hv47, hm⟩ := Option.bind_eq_some_iff.mp hm
      refine j_gI G d_M_append_46 fl_M_99 hv47 ?_
      refine j_iconst (v := 1) G d_M_append_49 (by decide) ?_
      refine j_isub G d_M_append_50 ?_
      refine j_aload_n G d_M_append_51 rfl ?_
      obtain ⟨v48, hv48, hm⟩ := Option.bind_eq_some_iff.mp hm
      refine j_gR G d_M_append_52 fl_M_13 hv48 ?_
      refine j_aload_n G d_M_append_55 rfl ?_
      obtain ⟨v49, hv49, hm⟩ := Option.bind_eq_some_iff.mp hm
      refine j_gI G d_M_append_56 fl_M_99 hv49 ?_
      refine j_iconst (v := 1) G d_M_append_59 (by decide) ?_
      refine j_isub G d_M_append_60 ?_
      obtain ⟨v50, hv50, hm⟩ := Option.bind_eq_some_iff.mp hm
      refine j_iald G d_M_append_61 hv50 ?_
      obtain ⟨v51, hv51, hm⟩ := Option.bind_eq_some_iff.mp hm
      refine j_iast G d_M_append_62 hv51 ?_
      obtain rfl := Option.some.inj hm
      refine j_lv [(0, aRf o), (1, aL p1), (3, aI p2), (4, aL p3), (6, aI p4)] rfl ?_
      exact hJ33
  · rw [if_neg hc] at hm
    refine j_aload_n G d_M_append_15 rfl ?_
    obtain ⟨v52, hv52, hm⟩ := Option.bind_eq_some_iff.mp hm
    refine j_gR G d_M_append_16 fl_M_13 hv52 ?_
    refine j_aload_n G d_M_append_19 rfl ?_
    obtain ⟨v53, hv53, hm⟩ := Option.bind_eq_some_iff.mp hm
    refine j_gI G d_M_append_20 fl_M_99 hv53 ?_
    refine j_iconst (v := 1) G d_M_append_23 (by decide) ?_
    refine j_isub G d_M_append_24 ?_
    obtain ⟨v54, hv54, hm⟩ := Option.bind_eq_some_iff.mp hm
    refine j_iald G d_M_append_25 hv54 ?_
    refine j_iload G d_M_append_26 rfl ?_
    refine j_iadd G d_M_append_28 ?_
    refine j_bipush (v := 100) G d_M_append_29 (by decide) ?_
    refine j_icmp_le (tgt := 109) G d_M_append_31 rfl (fun hc => ?_) (fun hc => ?_)
    · rw [if_pos hc] at hm
      obtain rfl := Option.some.inj hm
      refine j_lv [(0, aRf o), (1, aL p1), (3, aI p2), (4, aL p3), (6, aI p4)] rfl ?_
      exact hJ3
    · rw [if_neg hc] at hm
      refine j_aload_n G d_M_append_34 rfl ?_
      obtain ⟨v55, hv55, hm⟩ := Option.bind_eq_some_iff.mp hm
      refine j_gI G d_M_append_35 fl_M_102 hv55 ?_
      obtain ⟨j56, hj56, ho56⟩ := Option.bind_eq_some_iff.mp hm
      clear hm
      have hJ56 : aj_J Γ 13 (0, 0) 63 [(0, aRf o), (1, aL p1), (3, aI p2), (4, aL p3), (6, aI p4)] [] j56 := by
        clear hj56
        have hm := ho56
        clear ho56
        refine j_aload_n G d_M_append_63 rfl ?_
        refine j_iconst (v := 1) G d_M_append_64 (by decide) ?_
        obtain ⟨v57, hv57, hm⟩ := Option.bind_eq_some_iff.mp hm
        refine j_pV (ty := aY_M 20) G d_M_append_65 fl_M_102 ac_M (aw_T_of_M 20 (by decide) rfl) (by decide) (by decide) hv57 ?_
        refine j_aload_n G d_M_append_68 rfl ?_
        refine j_aload_n G d_M_append_69 rfl ?_
        obtain ⟨v58, hv58, hm⟩ := Option.bind_eq_some_iff.mp hm
        refine j_gI G d_M_append_70 fl_M_99 hv58 ?_
        obtain ⟨v59, hv59, hm⟩ := Option.bind_eq_some_iff.mp hm
        obtain ⟨v60, hv60, hm⟩ := Option.bind_eq_some_iff.mp hm
        refine j_callV (As := [aI v58]) G d_M_append_73 (c_M_clearRow _ G.off _ _ _ _ _ _ _ hv60) mw_M_clearRow mi_M_clearRow lk_M_110 rfl hv59 rfl rfl (Nat.le_of_ble_eq_true rfl) ⟨by decide, by decide⟩ ⟨by decide, by decide⟩ (fun v9 w9 hp => ?_)
        obtain ⟨rfl, rfl⟩ := hp
        refine j_aload_n G d_M_append_76 rfl ?_
        refine j_dup G d_M_append_77 rfl ?_
        obtain ⟨v61, hv61, hm⟩ := Option.bind_eq_some_iff.mp hm
        refine j_gI G d_M_append_78 fl_M_114 hv61 ?_
        refine j_iconst (v := 1) G d_M_append_81 (by decide) ?_
        refine j_iadd G d_M_append_82 ?_
        obtain ⟨v62, hv62, hm⟩ := Option.bind_eq_some_iff.mp hm
        refine j_pV (ty := aY_M 22) G d_M_append_83 fl_M_114 ac_M (aw_T_of_M 22 (by decide) rfl) rfl rfl hv62 ?_
        refine j_aload_n G d_M_append_86 rfl ?_
        obtain ⟨v63, hv63, hm⟩ := Option.bind_eq_some_iff.mp hm
        refine j_gR G d_M_append_87 fl_M_7 hv63 ?_
        refine j_aload_n G d_M_append_90 rfl ?_
        obtain ⟨v64, hv64, hm⟩ := Option.bind_eq_some_iff.mp hm
        refine j_gI G d_M_append_91 fl_M_99 hv64 ?_
        refine j_aload_n G d_M_append_94 rfl ?_
        obtain ⟨v65, hv65, hm⟩ := Option.bind_eq_some_iff.mp hm
        refine j_gI G d_M_append_95 fl_M_114 hv65 ?_
        obtain ⟨v66, hv66, hm⟩ := Option.bind_eq_some_iff.mp hm
        refine j_iast G d_M_append_98 hv66 ?_
        refine j_aload_n G d_M_append_99 rfl ?_
        refine j_dup G d_M_append_100 rfl ?_
        obtain ⟨v67, hv67, hm⟩ := Option.bind_eq_some_iff.mp hm
        refine j_gI G d_M_append_101 fl_M_99 hv67 ?_
        refine j_iconst (v := 1) G d_M_append_104 (by decide) ?_
        refine j_iadd G d_M_append_105 ?_
        obtain ⟨v68, hv68, hm⟩ := Option.bind_eq_some_iff.mp hm
        refine j_pV (ty := aY_M 1) G d_M_append_106 fl_M_99 ac_M (aw_T_of_M 1 (by decide) rfl) rfl rfl hv68 ?_
        obtain rfl := Option.some.inj hm
        refine j_lv [(0, aRf o), (1, aL p1), (3, aI p2), (4, aL p3), (6, aI p4)] rfl ?_
        exact hJ3
      clear ho56
      have hm := hj56
      clear hj56
      refine j_if_eq (tgt := 63) G d_M_append_38 rfl (fun hc => ?_) (fun hc => ?_)
      · rw [if_pos hc] at hm
        obtain rfl := Option.some.inj hm
        refine j_lv [(0, aRf o), (1, aL p1), (3, aI p2), (4, aL p3), (6, aI p4)] rfl ?_
        exact hJ56
      · rw [if_neg hc] at hm
        refine j_aload_n G d_M_append_41 rfl ?_
        obtain ⟨v69, hv69, hm⟩ := Option.bind_eq_some_iff.mp hm
        refine j_gR G d_M_append_42 fl_M_16 hv69 ?_
        refine j_aload_n G d_M_append_45 rfl ?_
        obtain ⟨v70, hv70, hm⟩ := Option.bind_eq_some_iff.mp hm
        refine j_gI G d_M_append_46 fl_M_99 hv70 ?_
        refine j_iconst (v := 1) G d_M_append_49 (by decide) ?_
        refine j_isub G d_M_append_50 ?_
        refine j_aload_n G d_M_append_51 rfl ?_
        obtain ⟨v71, hv71, hm⟩ := Option.bind_eq_some_iff.mp hm
        refine j_gR G d_M_append_52 fl_M_13 hv71 ?_
        refine j_aload_n G d_M_append_55 rfl ?_
        obtain ⟨v72, hv72, hm⟩ := Option.bind_eq_some_iff.mp hm
        refine j_gI G d_M_append_56 fl_M_99 hv72 ?_
        refine j_iconst (v := 1) G d_M_append_59 (by decide) ?_
        refine j_isub G d_M_append_60 ?_
        obtain ⟨v73, hv73, hm⟩ := Option.bind_eq_some_iff.mp hm
        refine j_iald G d_M_append_61 hv73 ?_
        obtain ⟨v74, hv74, hm⟩ := Option.bind_eq_some_iff.mp hm
        refine j_iast G d_M_append_62 hv74 ?_
        obtain rfl := Option.some.inj hm
        refine j_lv [(0, aRf o), (1, aL p1), (3, aI p2), (4, aL p3), (6, aI p4)] rfl ?_
        exact hJ56
noncomputable def f_M_put (w : aw_W) (o : Option Nat) (p1 : Int64) (p2 : Int32) (p3 : Int64) (p4 : Int32) : Option (aw_W) :=
  (f_M_in w p2 (1 : Int32) (4 : Int32)).bind fun v1 =>
  (if v1 = 0 then
      some (1 : Int32)
    else
      (f_M_in w p4 (0 : Int32) (8 : Int32)).bind fun v2 =>
      if v2 = 0 then
        some (1 : Int32)
      else
        (aw_gI w o 7 21).bind fun v3 =>
        if v3 = 0 then
          (f_M_lengthOf w p2 p4).bind fun v4 =>
          (aw_obj w o 7).bind fun v5 =>
          (f_M_full w o v4).bind fun v6 =>
          if v6 = 0 then
            some (0 : Int32)
          else
            some (3 : Int32)
        else
          some (2 : Int32) : Option (Int32)).bind fun j7 =>
  (aw_pV w o 7 0 (.int j7)).bind fun v8 =>
  (aw_gI v8 o 7 0).bind fun v9 =>
  if v9 ≤ 0 then
    (aw_obj v8 o 7).bind fun v10 =>
    (f_M_append v8 o p1 p2 p3 p4).bind fun v11 =>
    (f_M_cut v11 p1 p2).bind fun v12 =>
    (aw_gI v11 o 7 22).bind fun v13 =>
    (aw_gR v11 o 7 9).bind fun v14 =>
    (aw_gI v11 o 7 1).bind fun v15 =>
    (aw_aI v11 v14 1 (v15 - (1 : Int32))).bind fun v16 =>
    (aw_obj v11 o 7).bind fun v17 =>
    (f_M_set v11 o v12 p2 v13 (v16 - (1 : Int32))).bind fun v18 =>
    some v18
  else
    some v8
abbrev rm_M_put : Room := { frames := 3, cells := 0, slots := 0, locals := 82 }
set_option maxRecDepth 100000 in
set_option maxHeartbeats 4000000 in
theorem c_M_put (l : Launch) (hl : l.stackTraces = false) (D : va_G) (dA : Nat → ClassId) (base : Nat) (w : aw_W) (o : Option Nat) (p1 : Int64) (p2 : Int32) (p3 : Int64) (p4 : Int32) (r : aw_W) (hm : f_M_put w o p1 p2 p3 p4 = some r) : aj_Ct l D dA base m_M_put rm_M_put [aRf o, aL p1, aI p2, aL p3, aI p4] w (fun v w' => none = v ∧ r = w') := by
  refine aj_enter hl (by decide) (Nat.le_of_ble_eq_true rfl) ?_
  intro Γ G E
  unfold f_M_put at hm
  refine j_aload_n G d_M_put_0 rfl ?_
  refine j_iload_n G d_M_put_1 rfl ?_
  refine j_iconst (v := 1) G d_M_put_2 (by decide) ?_
  refine j_iconst (v := 4) G d_M_put_3 (by decide) ?_
  obtain ⟨v1, hv1, hm⟩ := Option.bind_eq_some_iff.mp hm
  refine j_callS (As := [aI p2, aI (1 : Int32), aI (4 : Int32)]) G d_M_put_4 (c_M_in _ G.off _ _ _ _ _ _ _ _ hv1) mw_M_in ms_M_in lk_M_133 rfl rfl (Nat.le_of_ble_eq_true rfl) ⟨by decide, by decide⟩ ⟨by decide, by decide⟩ (fun v9 w9 hp => ?_)
  obtain ⟨rfl, rfl⟩ := hp
  obtain ⟨j2, hj2, ho2⟩ := Option.bind_eq_some_iff.mp hm
  clear hm
  have hJ2 : aj_J Γ 7 (0, 0) 54 [(0, aRf o), (1, aL p1), (3, aI p2), (4, aL p3), (6, aI p4)] [aI j2, aRf o] w := by
    clear hj2
    have hm := ho2
    clear ho2
    obtain ⟨v3, hv3, hm⟩ := Option.bind_eq_some_iff.mp hm
    refine j_pV (ty := aY_M 0) G d_M_put_54 fl_M_63 ac_M (aw_T_of_M 0 (by decide) rfl) rfl rfl hv3 ?_
    refine j_aload_n G d_M_put_57 rfl ?_
    obtain ⟨v4, hv4, hm⟩ := Option.bind_eq_some_iff.mp hm
    refine j_gI G d_M_put_58 fl_M_63 hv4 ?_
    refine j_if_le (tgt := 65) G d_M_put_61 rfl (fun hc => ?_) (fun hc => ?_)
    · rw [if_pos hc] at hm
      refine j_aload_n G d_M_put_65 rfl ?_
      refine j_lload_n G d_M_put_66 rfl ?_
      refine j_iload_n G d_M_put_67 rfl ?_
      refine j_lload G d_M_put_68 rfl ?_
      refine j_iload G d_M_put_70 rfl ?_
      obtain ⟨v5, hv5, hm⟩ := Option.bind_eq_some_iff.mp hm
      obtain ⟨v6, hv6, hm⟩ := Option.bind_eq_some_iff.mp hm
      refine j_callV (As := [aL p1, aI p2, aL p3, aI p4]) G d_M_put_72 (c_M_append _ G.off _ _ _ _ _ _ _ _ _ _ hv6) mw_M_append mi_M_append lk_M_144 rfl hv5 rfl rfl (Nat.le_of_ble_eq_true rfl) ⟨by decide, by decide⟩ ⟨by decide, by decide⟩ (fun v9 w9 hp => ?_)
      obtain ⟨rfl, rfl⟩ := hp
      refine j_aload_n G d_M_put_75 rfl ?_
      refine j_lload_n G d_M_put_76 rfl ?_
      refine j_iload_n G d_M_put_77 rfl ?_
      obtain ⟨v7, hv7, hm⟩ := Option.bind_eq_some_iff.mp hm
      refine j_callS (As := [aL p1, aI p2]) G d_M_put_78 (c_M_cut _ G.off _ _ _ _ _ _ _ hv7) mw_M_cut ms_M_cut lk_M_148 rfl rfl (Nat.le_of_ble_eq_true rfl) ⟨by decide, by decide⟩ ⟨by decide, by decide⟩ (fun v9 w9 hp => ?_)
      obtain ⟨rfl, rfl⟩ := hp
      refine j_iload_n G d_M_put_81 rfl ?_
      refine j_aload_n G d_M_put_82 rfl ?_
      obtain ⟨v8, hv8, hm⟩ := Option.bind_eq_some_iff.mp hm
      refine j_gI G d_M_put_83 fl_M_114 hv8 ?_
      refine j_aload_n G d_M_put_86 rfl ?_
      obtain ⟨v9, hv9, hm⟩ := Option.bind_eq_some_iff.mp hm
      refine j_gR G d_M_put_87 fl_M_32 hv9 ?_
      refine j_aload_n G d_M_put_90 rfl ?_
      obtain ⟨v10, hv10, hm⟩ := Option.bind_eq_some_iff.mp hm
      refine j_gI G d_M_put_91 fl_M_99 hv10 ?_
      refine j_iconst (v := 1) G d_M_put_94 (by decide) ?_
      refine j_isub G d_M_put_95 ?_
      obtain ⟨v11, hv11, hm⟩ := Option.bind_eq_some_iff.mp hm
      refine j_iald G d_M_put_96 hv11 ?_
      refine j_iconst (v := 1) G d_M_put_97 (by decide) ?_
      refine j_isub G d_M_put_98 ?_
      obtain ⟨v12, hv12, hm⟩ := Option.bind_eq_some_iff.mp hm
      obtain ⟨v13, hv13, hm⟩ := Option.bind_eq_some_iff.mp hm
      refine j_callV (As := [aL v7, aI p2, aI v8, aI (v11 - (1 : Int32))]) G d_M_put_99 (c_M_set _ G.off _ _ _ _ _ _ _ _ _ _ hv13) mw_M_set mi_M_set lk_M_151 rfl hv12 rfl rfl (Nat.le_of_ble_eq_true rfl) ⟨by decide, by decide⟩ ⟨by decide, by decide⟩ (fun v9 w9 hp => ?_)
      obtain ⟨rfl, rfl⟩ := hp
      obtain rfl := Option.some.inj hm
      exact j_vret G E d_M_put_102 ⟨by decide, by decide⟩ ⟨rfl, rfl⟩
    · rw [if_neg hc] at hm
      obtain rfl := Option.some.inj hm
      exact j_vret G E d_M_put_64 ⟨by decide, by decide⟩ ⟨rfl, rfl⟩
  clear ho2
  have hm := hj2
  clear hj2
  refine j_if_eq (tgt := 21) G d_M_put_7 rfl (fun hc => ?_) (fun hc => ?_)
  · rw [if_pos hc] at hm
    refine j_iconst (v := 1) G d_M_put_21 (by decide) ?_
    refine j_goto (tgt := 54) G d_M_put_22 rfl ?_
    obtain rfl := Option.some.inj hm
    refine j_lv [(0, aRf o), (1, aL p1), (3, aI p2), (4, aL p3), (6, aI p4)] rfl ?_
    exact hJ2
  · rw [if_neg hc] at hm
    refine j_iload G d_M_put_10 rfl ?_
    refine j_iconst (v := 0) G d_M_put_12 (by decide) ?_
    refine j_bipush (v := 8) G d_M_put_13 (by decide) ?_
    obtain ⟨v14, hv14, hm⟩ := Option.bind_eq_some_iff.mp hm
    refine j_callS (As := [aI p4, aI (0 : Int32), aI (8 : Int32)]) G d_M_put_15 (c_M_in _ G.off _ _ _ _ _ _ _ _ hv14) mw_M_in ms_M_in lk_M_133 rfl rfl (Nat.le_of_ble_eq_true rfl) ⟨by decide, by decide⟩ ⟨by decide, by decide⟩ (fun v9 w9 hp => ?_)
    obtain ⟨rfl, rfl⟩ := hp
    refine j_if_ne (tgt := 25) G d_M_put_18 rfl (fun hc => ?_) (fun hc => ?_)
    · rw [if_neg hc] at hm
      refine j_aload_n G d_M_put_25 rfl ?_
      obtain ⟨v15, hv15, hm⟩ := Option.bind_eq_some_iff.mp hm
      refine j_gI G d_M_put_26 fl_M_137 hv15 ?_
      refine j_if_eq (tgt := 36) G d_M_put_29 rfl (fun hc => ?_) (fun hc => ?_)
      · rw [if_pos hc] at hm
        refine j_aload_n G d_M_put_36 rfl ?_
        refine j_iload_n G d_M_put_37 rfl ?_
        refine j_iload G d_M_put_38 rfl ?_
        obtain ⟨v16, hv16, hm⟩ := Option.bind_eq_some_iff.mp hm
        refine j_callS (As := [aI p2, aI p4]) G d_M_put_40 (c_M_lengthOf _ G.off _ _ _ _ _ _ _ hv16) mw_M_lengthOf ms_M_lengthOf lk_M_81 rfl rfl (Nat.le_of_ble_eq_true rfl) ⟨by decide, by decide⟩ ⟨by decide, by decide⟩ (fun v9 w9 hp => ?_)
        obtain ⟨rfl, rfl⟩ := hp
        obtain ⟨v17, hv17, hm⟩ := Option.bind_eq_some_iff.mp hm
        obtain ⟨v18, hv18, hm⟩ := Option.bind_eq_some_iff.mp hm
        refine j_callV (As := [aI v16]) G d_M_put_43 (c_M_full _ G.off _ _ _ _ _ _ _ hv18) mw_M_full mi_M_full lk_M_140 rfl hv17 rfl rfl (Nat.le_of_ble_eq_true rfl) ⟨by decide, by decide⟩ ⟨by decide, by decide⟩ (fun v9 w9 hp => ?_)
        obtain ⟨rfl, rfl⟩ := hp
        refine j_if_eq (tgt := 53) G d_M_put_46 rfl (fun hc => ?_) (fun hc => ?_)
        · rw [if_pos hc] at hm
          refine j_iconst (v := 0) G d_M_put_53 (by decide) ?_
          obtain rfl := Option.some.inj hm
          refine j_lv [(0, aRf o), (1, aL p1), (3, aI p2), (4, aL p3), (6, aI p4)] rfl ?_
          exact hJ2
        · rw [if_neg hc] at hm
          refine j_iconst (v := 3) G d_M_put_49 (by decide) ?_
          refine j_goto (tgt := 54) G d_M_put_50 rfl ?_
          obtain rfl := Option.some.inj hm
          refine j_lv [(0, aRf o), (1, aL p1), (3, aI p2), (4, aL p3), (6, aI p4)] rfl ?_
          exact hJ2
      · rw [if_neg hc] at hm
        refine j_iconst (v := 2) G d_M_put_32 (by decide) ?_
        refine j_goto (tgt := 54) G d_M_put_33 rfl ?_
        obtain rfl := Option.some.inj hm
        refine j_lv [(0, aRf o), (1, aL p1), (3, aI p2), (4, aL p3), (6, aI p4)] rfl ?_
        exact hJ2
    · rw [if_pos hc] at hm
      refine j_iconst (v := 1) G d_M_put_21 (by decide) ?_
      refine j_goto (tgt := 54) G d_M_put_22 rfl ?_
      obtain rfl := Option.some.inj hm
      refine j_lv [(0, aRf o), (1, aL p1), (3, aI p2), (4, aL p3), (6, aI p4)] rfl ?_
      exact hJ2
noncomputable def f_M_delete (w : aw_W) (o : Option Nat) (p1 : Int64) (p2 : Int32) : Option (Int32 × aw_W) :=
  (f_M_in w p2 (1 : Int32) (4 : Int32)).bind fun v1 =>
  (if v1 = 0 then
      some (1 : Int32)
    else
      (aw_gI w o 7 21).bind fun v2 =>
      if v2 = 0 then
        some (0 : Int32)
      else
        some (2 : Int32) : Option (Int32)).bind fun j3 =>
  (aw_pV w o 7 0 (.int j3)).bind fun v4 =>
  (aw_gI v4 o 7 0).bind fun v5 =>
  if 0 < v5 then
    some ((0 : Int32), v4)
  else
    (f_M_cut v4 p1 p2).bind fun v6 =>
    (aw_obj v4 o 7).bind fun v7 =>
    (f_M_find v4 o v6 p2).bind fun v8 =>
    if 0 ≤ v8 then
      (aw_obj v4 o 7).bind fun v9 =>
      (f_M_full v4 o ((8 : Int32) + p2)).bind fun v10 =>
      if v10 = 0 then
        (aw_obj v4 o 7).bind fun v11 =>
        (f_M_append v4 o p1 p2 (0 : Int64) (255 : Int32)).bind fun v12 =>
        (f_M_cut v12 p1 p2).bind fun v13 =>
        (aw_obj v12 o 7).bind fun v14 =>
        (f_M_unset v12 o v13 p2).bind fun v15 =>
        some ((1 : Int32), v15)
      else
        (aw_pV v4 o 7 0 (.int (3 : Int32))).bind fun v16 =>
        some ((0 : Int32), v16)
    else
      some ((0 : Int32), v4)
abbrev rm_M_delete : Room := { frames := 3, cells := 0, slots := 0, locals := 82 }
set_option maxRecDepth 100000 in
set_option maxHeartbeats 4000000 in
theorem c_M_delete (l : Launch) (hl : l.stackTraces = false) (D : va_G) (dA : Nat → ClassId) (base : Nat) (w : aw_W) (o : Option Nat) (p1 : Int64) (p2 : Int32) (r : Int32 × aw_W) (hm : f_M_delete w o p1 p2 = some r) : aj_Ct l D dA base m_M_delete rm_M_delete [aRf o, aL p1, aI p2] w (fun v w' => some (aI r.1) = v ∧ r.2 = w') := by
  refine aj_enter hl (by decide) (Nat.le_of_ble_eq_true rfl) ?_
  intro Γ G E
  unfold f_M_delete at hm
  refine j_aload_n G d_M_delete_0 rfl ?_
  refine j_iload_n G d_M_delete_1 rfl ?_
  refine j_iconst (v := 1) G d_M_delete_2 (by decide) ?_
  refine j_iconst (v := 4) G d_M_delete_3 (by decide) ?_
  obtain ⟨v1, hv1, hm⟩ := Option.bind_eq_some_iff.mp hm
  refine j_callS (As := [aI p2, aI (1 : Int32), aI (4 : Int32)]) G d_M_delete_4 (c_M_in _ G.off _ _ _ _ _ _ _ _ hv1) mw_M_in ms_M_in lk_M_133 rfl rfl (Nat.le_of_ble_eq_true rfl) ⟨by decide, by decide⟩ ⟨by decide, by decide⟩ (fun v9 w9 hp => ?_)
  obtain ⟨rfl, rfl⟩ := hp
  obtain ⟨j2, hj2, ho2⟩ := Option.bind_eq_some_iff.mp hm
  clear hm
  have hJ2 : aj_J Γ 4 (0, 0) 26 [(0, aRf o), (1, aL p1), (3, aI p2)] [aI j2, aRf o] w := by
    clear hj2
    have hm := ho2
    clear ho2
    obtain ⟨v3, hv3, hm⟩ := Option.bind_eq_some_iff.mp hm
    refine j_pV (ty := aY_M 0) G d_M_delete_26 fl_M_63 ac_M (aw_T_of_M 0 (by decide) rfl) rfl rfl hv3 ?_
    refine j_aload_n G d_M_delete_29 rfl ?_
    obtain ⟨v4, hv4, hm⟩ := Option.bind_eq_some_iff.mp hm
    refine j_gI G d_M_delete_30 fl_M_63 hv4 ?_
    refine j_if_gt (tgt := 49) G d_M_delete_33 rfl (fun hc => ?_) (fun hc => ?_)
    · rw [if_pos hc] at hm
      refine j_iconst (v := 0) G d_M_delete_49 (by decide) ?_
      obtain rfl := Option.some.inj hm
      exact j_zret G E d_M_delete_50 ⟨by decide, by decide⟩ (by decide) ⟨rfl, rfl⟩
    · rw [if_neg hc] at hm
      refine j_aload_n G d_M_delete_36 rfl ?_
      refine j_lload_n G d_M_delete_37 rfl ?_
      refine j_iload_n G d_M_delete_38 rfl ?_
      obtain ⟨v5, hv5, hm⟩ := Option.bind_eq_some_iff.mp hm
      refine j_callS (As := [aL p1, aI p2]) G d_M_delete_39 (c_M_cut _ G.off _ _ _ _ _ _ _ hv5) mw_M_cut ms_M_cut lk_M_148 rfl rfl (Nat.le_of_ble_eq_true rfl) ⟨by decide, by decide⟩ ⟨by decide, by decide⟩ (fun v9 w9 hp => ?_)
      obtain ⟨rfl, rfl⟩ := hp
      refine j_iload_n G d_M_delete_42 rfl ?_
      obtain ⟨v6, hv6, hm⟩ := Option.bind_eq_some_iff.mp hm
      obtain ⟨v7, hv7, hm⟩ := Option.bind_eq_some_iff.mp hm
      refine j_callV (As := [aL v5, aI p2]) G d_M_delete_43 (c_M_find _ G.off _ _ _ _ _ _ _ _ hv7) mw_M_find mi_M_find lk_M_88 rfl hv6 rfl rfl (Nat.le_of_ble_eq_true rfl) ⟨by decide, by decide⟩ ⟨by decide, by decide⟩ (fun v9 w9 hp => ?_)
      obtain ⟨rfl, rfl⟩ := hp
      refine j_if_ge (tgt := 51) G d_M_delete_46 rfl (fun hc => ?_) (fun hc => ?_)
      · rw [if_pos hc] at hm
        refine j_aload_n G d_M_delete_51 rfl ?_
        refine j_bipush (v := 8) G d_M_delete_52 (by decide) ?_
        refine j_iload_n G d_M_delete_54 rfl ?_
        refine j_iadd G d_M_delete_55 ?_
        obtain ⟨v8, hv8, hm⟩ := Option.bind_eq_some_iff.mp hm
        obtain ⟨v9, hv9, hm⟩ := Option.bind_eq_some_iff.mp hm
        refine j_callV (As := [aI ((8 : Int32) + p2)]) G d_M_delete_56 (c_M_full _ G.off _ _ _ _ _ _ _ hv9) mw_M_full mi_M_full lk_M_140 rfl hv8 rfl rfl (Nat.le_of_ble_eq_true rfl) ⟨by decide, by decide⟩ ⟨by decide, by decide⟩ (fun v9 w9 hp => ?_)
        obtain ⟨rfl, rfl⟩ := hp
        refine j_if_eq (tgt := 69) G d_M_delete_59 rfl (fun hc => ?_) (fun hc => ?_)
        · rw [if_pos hc] at hm
          refine j_aload_n G d_M_delete_69 rfl ?_
          refine j_lload_n G d_M_delete_70 rfl ?_
          refine j_iload_n G d_M_delete_71 rfl ?_
          refine j_lconst (v := 0) G d_M_delete_72 (by decide) ?_
          refine j_sipush (v := 255) G d_M_delete_73 (by decide) ?_
          obtain ⟨v10, hv10, hm⟩ := Option.bind_eq_some_iff.mp hm
          obtain ⟨v11, hv11, hm⟩ := Option.bind_eq_some_iff.mp hm
          refine j_callV (As := [aL p1, aI p2, aL (0 : Int64), aI (255 : Int32)]) G d_M_delete_76 (c_M_append _ G.off _ _ _ _ _ _ _ _ _ _ hv11) mw_M_append mi_M_append lk_M_144 rfl hv10 rfl rfl (Nat.le_of_ble_eq_true rfl) ⟨by decide, by decide⟩ ⟨by decide, by decide⟩ (fun v9 w9 hp => ?_)
          obtain ⟨rfl, rfl⟩ := hp
          refine j_aload_n G d_M_delete_79 rfl ?_
          refine j_lload_n G d_M_delete_80 rfl ?_
          refine j_iload_n G d_M_delete_81 rfl ?_
          obtain ⟨v12, hv12, hm⟩ := Option.bind_eq_some_iff.mp hm
          refine j_callS (As := [aL p1, aI p2]) G d_M_delete_82 (c_M_cut _ G.off _ _ _ _ _ _ _ hv12) mw_M_cut ms_M_cut lk_M_148 rfl rfl (Nat.le_of_ble_eq_true rfl) ⟨by decide, by decide⟩ ⟨by decide, by decide⟩ (fun v9 w9 hp => ?_)
          obtain ⟨rfl, rfl⟩ := hp
          refine j_iload_n G d_M_delete_85 rfl ?_
          obtain ⟨v13, hv13, hm⟩ := Option.bind_eq_some_iff.mp hm
          obtain ⟨v14, hv14, hm⟩ := Option.bind_eq_some_iff.mp hm
          refine j_callV (As := [aL v12, aI p2]) G d_M_delete_86 (c_M_unset _ G.off _ _ _ _ _ _ _ _ hv14) mw_M_unset mi_M_unset lk_M_155 rfl hv13 rfl rfl (Nat.le_of_ble_eq_true rfl) ⟨by decide, by decide⟩ ⟨by decide, by decide⟩ (fun v9 w9 hp => ?_)
          obtain ⟨rfl, rfl⟩ := hp
          refine j_iconst (v := 1) G d_M_delete_89 (by decide) ?_
          obtain rfl := Option.some.inj hm
          exact j_zret G E d_M_delete_90 ⟨by decide, by decide⟩ (by decide) ⟨rfl, rfl⟩
        · rw [if_neg hc] at hm
          refine j_aload_n G d_M_delete_62 rfl ?_
          refine j_iconst (v := 3) G d_M_delete_63 (by decide) ?_
          obtain ⟨v15, hv15, hm⟩ := Option.bind_eq_some_iff.mp hm
          refine j_pV (ty := aY_M 0) G d_M_delete_64 fl_M_63 ac_M (aw_T_of_M 0 (by decide) rfl) rfl rfl hv15 ?_
          refine j_iconst (v := 0) G d_M_delete_67 (by decide) ?_
          obtain rfl := Option.some.inj hm
          exact j_zret G E d_M_delete_68 ⟨by decide, by decide⟩ (by decide) ⟨rfl, rfl⟩
      · rw [if_neg hc] at hm
        refine j_iconst (v := 0) G d_M_delete_49 (by decide) ?_
        obtain rfl := Option.some.inj hm
        exact j_zret G E d_M_delete_50 ⟨by decide, by decide⟩ (by decide) ⟨rfl, rfl⟩
  clear ho2
  have hm := hj2
  clear hj2
  refine j_if_ne (tgt := 14) G d_M_delete_7 rfl (fun hc => ?_) (fun hc => ?_)
  · rw [if_neg hc] at hm
    refine j_aload_n G d_M_delete_14 rfl ?_
    obtain ⟨v16, hv16, hm⟩ := Option.bind_eq_some_iff.mp hm
    refine j_gI G d_M_delete_15 fl_M_137 hv16 ?_
    refine j_if_eq (tgt := 25) G d_M_delete_18 rfl (fun hc => ?_) (fun hc => ?_)
    · rw [if_pos hc] at hm
      refine j_iconst (v := 0) G d_M_delete_25 (by decide) ?_
      obtain rfl := Option.some.inj hm
      refine j_lv [(0, aRf o), (1, aL p1), (3, aI p2)] rfl ?_
      exact hJ2
    · rw [if_neg hc] at hm
      refine j_iconst (v := 2) G d_M_delete_21 (by decide) ?_
      refine j_goto (tgt := 26) G d_M_delete_22 rfl ?_
      obtain rfl := Option.some.inj hm
      refine j_lv [(0, aRf o), (1, aL p1), (3, aI p2)] rfl ?_
      exact hJ2
  · rw [if_pos hc] at hm
    refine j_iconst (v := 1) G d_M_delete_10 (by decide) ?_
    refine j_goto (tgt := 26) G d_M_delete_11 rfl ?_
    obtain rfl := Option.some.inj hm
    refine j_lv [(0, aRf o), (1, aL p1), (3, aI p2)] rfl ?_
    exact hJ2
noncomputable def f_M_get (w : aw_W) (o : Option Nat) (p1 : Int64) (p2 : Int32) : Option (Int64 × aw_W) :=
  (f_M_in w p2 (1 : Int32) (4 : Int32)).bind fun v1 =>
  (if v1 = 0 then
      some (1 : Int32)
    else
      (aw_gI w o 7 21).bind fun v2 =>
      if v2 = 0 then
        some (0 : Int32)
      else
        some (2 : Int32) : Option (Int32)).bind fun j3 =>
  (aw_pV w o 7 0 (.int j3)).bind fun v4 =>
  (aw_gI v4 o 7 0).bind fun v5 =>
  if v5 ≤ 0 then
    (f_M_cut v4 p1 p2).bind fun v6 =>
    (aw_obj v4 o 7).bind fun v7 =>
    (f_M_find v4 o v6 p2).bind fun v8 =>
    if 0 ≤ v8 then
      (aw_gR v4 o 7 18).bind fun v9 =>
      (aw_aI v4 v9 1 v8).bind fun v10 =>
      (aw_obj v4 o 7).bind fun v11 =>
      (f_M_rowOf v4 o v10).bind fun v12 =>
      (aw_gR v4 o 7 10).bind fun v13 =>
      (aw_gR v4 o 7 19).bind fun v14 =>
      (aw_aI v4 v14 1 v8).bind fun v15 =>
      (aw_aI v4 v13 1 (((12 : Int32) * v12) + v15)).bind fun v16 =>
      (aw_gR v4 o 7 19).bind fun v17 =>
      (aw_aI v4 v17 1 v8).bind fun v18 =>
      (aw_obj v4 o 7).bind fun v19 =>
      (f_M_length v4 o v12 v18).bind fun v20 =>
      (aw_gR v4 o 7 5).bind fun v21 =>
      (f_M_numberIn v4 v21 (((100 : Int32) * v12) + v16) (4 : Int32)).bind fun v22 =>
      (aw_gR v4 o 7 5).bind fun v23 =>
      (f_M_sumOf v4 v23 ((((100 : Int32) * v12) + v16) + (4 : Int32)) ((((100 : Int32) * v12) + v16) + v20)).bind fun v24 =>
      if (lg_cmp v22 v24) = 0 then
        (aw_gR v4 o 7 5).bind fun v25 =>
        (f_M_numberIn v4 v25 (((((100 : Int32) * v12) + v16) + (8 : Int32)) + p2) ((v20 - (8 : Int32)) - p2)).bind fun v26 =>
        some (v26, v4)
      else
        (aw_obj v4 o 7).bind fun v27 =>
        (f_M_fail v4 o (4 : Int32)).bind fun v28 =>
        some (v28.1.toInt64, v28.2)
    else
      (aw_obj v4 o 7).bind fun v29 =>
      (f_M_fail v4 o (3 : Int32)).bind fun v30 =>
      some (v30.1.toInt64, v30.2)
  else
    some ((0 : Int64), v4)
abbrev rm_M_get : Room := { frames := 2, cells := 0, slots := 0, locals := 50 }
set_option maxRecDepth 100000 in
set_option maxHeartbeats 4000000 in
theorem c_M_get (l : Launch) (hl : l.stackTraces = false) (D : va_G) (dA : Nat → ClassId) (base : Nat) (w : aw_W) (o : Option Nat) (p1 : Int64) (p2 : Int32) (r : Int64 × aw_W) (hm : f_M_get w o p1 p2 = some r) : aj_Ct l D dA base m_M_get rm_M_get [aRf o, aL p1, aI p2] w (fun v w' => some (aL r.1) = v ∧ r.2 = w') := by
  refine aj_enter hl (by decide) (Nat.le_of_ble_eq_true rfl) ?_
  intro Γ G E
  unfold f_M_get at hm
  refine j_aload_n G d_M_get_0 rfl ?_
  refine j_iload_n G d_M_get_1 rfl ?_
  refine j_iconst (v := 1) G d_M_get_2 (by decide) ?_
  refine j_iconst (v := 4) G d_M_get_3 (by decide) ?_
  obtain ⟨v1, hv1, hm⟩ := Option.bind_eq_some_iff.mp hm
  refine j_callS (As := [aI p2, aI (1 : Int32), aI (4 : Int32)]) G d_M_get_4 (c_M_in _ G.off _ _ _ _ _ _ _ _ hv1) mw_M_in ms_M_in lk_M_133 rfl rfl (Nat.le_of_ble_eq_true rfl) ⟨by decide, by decide⟩ ⟨by decide, by decide⟩ (fun v9 w9 hp => ?_)
  obtain ⟨rfl, rfl⟩ := hp
  obtain ⟨j2, hj2, ho2⟩ := Option.bind_eq_some_iff.mp hm
  clear hm
  have hJ2 : aj_J Γ 8 (0, 0) 26 [(0, aRf o), (1, aL p1), (3, aI p2)] [aI j2, aRf o] w := by
    clear hj2
    have hm := ho2
    clear ho2
    obtain ⟨v3, hv3, hm⟩ := Option.bind_eq_some_iff.mp hm
    refine j_pV (ty := aY_M 0) G d_M_get_26 fl_M_63 ac_M (aw_T_of_M 0 (by decide) rfl) rfl rfl hv3 ?_
    refine j_aload_n G d_M_get_29 rfl ?_
    obtain ⟨v4, hv4, hm⟩ := Option.bind_eq_some_iff.mp hm
    refine j_gI G d_M_get_30 fl_M_63 hv4 ?_
    refine j_if_le (tgt := 38) G d_M_get_33 rfl (fun hc => ?_) (fun hc => ?_)
    · rw [if_pos hc] at hm
      refine j_aload_n G d_M_get_38 rfl ?_
      refine j_lload_n G d_M_get_39 rfl ?_
      refine j_iload_n G d_M_get_40 rfl ?_
      obtain ⟨v5, hv5, hm⟩ := Option.bind_eq_some_iff.mp hm
      refine j_callS (As := [aL p1, aI p2]) G d_M_get_41 (c_M_cut _ G.off _ _ _ _ _ _ _ hv5) mw_M_cut ms_M_cut lk_M_148 rfl rfl (Nat.le_of_ble_eq_true rfl) ⟨by decide, by decide⟩ ⟨by decide, by decide⟩ (fun v9 w9 hp => ?_)
      obtain ⟨rfl, rfl⟩ := hp
      refine j_iload_n G d_M_get_44 rfl ?_
      obtain ⟨v6, hv6, hm⟩ := Option.bind_eq_some_iff.mp hm
      obtain ⟨v7, hv7, hm⟩ := Option.bind_eq_some_iff.mp hm
      refine j_callV (As := [aL v5, aI p2]) G d_M_get_45 (c_M_find _ G.off _ _ _ _ _ _ _ _ hv7) mw_M_find mi_M_find lk_M_88 rfl hv6 rfl rfl (Nat.le_of_ble_eq_true rfl) ⟨by decide, by decide⟩ ⟨by decide, by decide⟩ (fun v9 w9 hp => ?_)
      obtain ⟨rfl, rfl⟩ := hp
      refine j_istore G d_M_get_48 (by decide) ?_
      refine j_iload G d_M_get_50 rfl ?_
      refine j_if_ge (tgt := 62) G d_M_get_52 rfl (fun hc => ?_) (fun hc => ?_)
      · rw [if_pos hc] at hm
        refine j_aload_n G d_M_get_62 rfl ?_
        refine j_aload_n G d_M_get_63 rfl ?_
        obtain ⟨v8, hv8, hm⟩ := Option.bind_eq_some_iff.mp hm
        refine j_gR G d_M_get_64 fl_M_57 hv8 ?_
        refine j_iload G d_M_get_67 rfl ?_
        obtain ⟨v9, hv9, hm⟩ := Option.bind_eq_some_iff.mp hm
        refine j_iald G d_M_get_69 hv9 ?_
        obtain ⟨v10, hv10, hm⟩ := Option.bind_eq_some_iff.mp hm
        obtain ⟨v11, hv11, hm⟩ := Option.bind_eq_some_iff.mp hm
        refine j_callV (As := [aI v9]) G d_M_get_70 (c_M_rowOf _ G.off _ _ _ _ _ _ _ hv11) mw_M_rowOf mi_M_rowOf lk_M_163 rfl hv10 rfl rfl (Nat.le_of_ble_eq_true rfl) ⟨by decide, by decide⟩ ⟨by decide, by decide⟩ (fun v9 w9 hp => ?_)
        obtain ⟨rfl, rfl⟩ := hp
        refine j_istore G d_M_get_73 (by decide) ?_
        refine j_bipush (v := 100) G d_M_get_75 (by decide) ?_
        refine j_iload G d_M_get_77 rfl ?_
        refine j_imul G d_M_get_79 ?_
        refine j_aload_n G d_M_get_80 rfl ?_
        obtain ⟨v12, hv12, hm⟩ := Option.bind_eq_some_iff.mp hm
        refine j_gR G d_M_get_81 fl_M_35 hv12 ?_
        refine j_bipush (v := 12) G d_M_get_84 (by decide) ?_
        refine j_iload G d_M_get_86 rfl ?_
        refine j_imul G d_M_get_88 ?_
        refine j_aload_n G d_M_get_89 rfl ?_
        obtain ⟨v13, hv13, hm⟩ := Option.bind_eq_some_iff.mp hm
        refine j_gR G d_M_get_90 fl_M_60 hv13 ?_
        refine j_iload G d_M_get_93 rfl ?_
        obtain ⟨v14, hv14, hm⟩ := Option.bind_eq_some_iff.mp hm
        refine j_iald G d_M_get_95 hv14 ?_
        refine j_iadd G d_M_get_96 ?_
        obtain ⟨v15, hv15, hm⟩ := Option.bind_eq_some_iff.mp hm
        refine j_iald G d_M_get_97 hv15 ?_
        refine j_iadd G d_M_get_98 ?_
        refine j_istore G d_M_get_99 (by decide) ?_
        refine j_aload_n G d_M_get_101 rfl ?_
        refine j_iload G d_M_get_102 rfl ?_
        refine j_aload_n G d_M_get_104 rfl ?_
        obtain ⟨v16, hv16, hm⟩ := Option.bind_eq_some_iff.mp hm
        refine j_gR G d_M_get_105 fl_M_60 hv16 ?_
        refine j_iload G d_M_get_108 rfl ?_
        obtain ⟨v17, hv17, hm⟩ := Option.bind_eq_some_iff.mp hm
        refine j_iald G d_M_get_110 hv17 ?_
        obtain ⟨v18, hv18, hm⟩ := Option.bind_eq_some_iff.mp hm
        obtain ⟨v19, hv19, hm⟩ := Option.bind_eq_some_iff.mp hm
        refine j_callV (As := [aI v11, aI v17]) G d_M_get_111 (c_M_length _ G.off _ _ _ _ _ _ _ _ hv19) mw_M_length mi_M_length lk_M_166 rfl hv18 rfl rfl (Nat.le_of_ble_eq_true rfl) ⟨by decide, by decide⟩ ⟨by decide, by decide⟩ (fun v9 w9 hp => ?_)
        obtain ⟨rfl, rfl⟩ := hp
        refine j_istore G d_M_get_114 (by decide) ?_
        refine j_aload_n G d_M_get_116 rfl ?_
        obtain ⟨v20, hv20, hm⟩ := Option.bind_eq_some_iff.mp hm
        refine j_gR G d_M_get_117 fl_M_19 hv20 ?_
        refine j_iload G d_M_get_120 rfl ?_
        refine j_iconst (v := 4) G d_M_get_122 (by decide) ?_
        obtain ⟨v21, hv21, hm⟩ := Option.bind_eq_some_iff.mp hm
        refine j_callS (As := [aRf v20, aI (((100 : Int32) * v11) + v15), aI (4 : Int32)]) G d_M_get_123 (c_M_numberIn _ G.off _ _ _ _ _ _ _ _ hv21) mw_M_numberIn ms_M_numberIn lk_M_169 rfl rfl (Nat.le_of_ble_eq_true rfl) ⟨by decide, by decide⟩ ⟨by decide, by decide⟩ (fun v9 w9 hp => ?_)
        obtain ⟨rfl, rfl⟩ := hp
        refine j_aload_n G d_M_get_126 rfl ?_
        obtain ⟨v22, hv22, hm⟩ := Option.bind_eq_some_iff.mp hm
        refine j_gR G d_M_get_127 fl_M_19 hv22 ?_
        refine j_iload G d_M_get_130 rfl ?_
        refine j_iconst (v := 4) G d_M_get_132 (by decide) ?_
        refine j_iadd G d_M_get_133 ?_
        refine j_iload G d_M_get_134 rfl ?_
        refine j_iload G d_M_get_136 rfl ?_
        refine j_iadd G d_M_get_138 ?_
        obtain ⟨v23, hv23, hm⟩ := Option.bind_eq_some_iff.mp hm
        refine j_callS (As := [aRf v22, aI ((((100 : Int32) * v11) + v15) + (4 : Int32)), aI ((((100 : Int32) * v11) + v15) + v19)]) G d_M_get_139 (c_M_sumOf _ G.off _ _ _ _ _ _ _ _ hv23) mw_M_sumOf ms_M_sumOf lk_M_128 rfl rfl (Nat.le_of_ble_eq_true rfl) ⟨by decide, by decide⟩ ⟨by decide, by decide⟩ (fun v9 w9 hp => ?_)
        obtain ⟨rfl, rfl⟩ := hp
        refine j_lcmp G d_M_get_142 ?_
        refine j_if_eq (tgt := 153) G d_M_get_143 rfl (fun hc => ?_) (fun hc => ?_)
        · rw [if_pos hc] at hm
          refine j_aload_n G d_M_get_153 rfl ?_
          obtain ⟨v24, hv24, hm⟩ := Option.bind_eq_some_iff.mp hm
          refine j_gR G d_M_get_154 fl_M_19 hv24 ?_
          refine j_iload G d_M_get_157 rfl ?_
          refine j_bipush (v := 8) G d_M_get_159 (by decide) ?_
          refine j_iadd G d_M_get_161 ?_
          refine j_iload_n G d_M_get_162 rfl ?_
          refine j_iadd G d_M_get_163 ?_
          refine j_iload G d_M_get_164 rfl ?_
          refine j_bipush (v := 8) G d_M_get_166 (by decide) ?_
          refine j_isub G d_M_get_168 ?_
          refine j_iload_n G d_M_get_169 rfl ?_
          refine j_isub G d_M_get_170 ?_
          obtain ⟨v25, hv25, hm⟩ := Option.bind_eq_some_iff.mp hm
          refine j_callS (As := [aRf v24, aI (((((100 : Int32) * v11) + v15) + (8 : Int32)) + p2), aI ((v19 - (8 : Int32)) - p2)]) G d_M_get_171 (c_M_numberIn _ G.off _ _ _ _ _ _ _ _ hv25) mw_M_numberIn ms_M_numberIn lk_M_169 rfl rfl (Nat.le_of_ble_eq_true rfl) ⟨by decide, by decide⟩ ⟨by decide, by decide⟩ (fun v9 w9 hp => ?_)
          obtain ⟨rfl, rfl⟩ := hp
          obtain rfl := Option.some.inj hm
          exact j_lret G E d_M_get_174 ⟨by decide, by decide⟩ ⟨rfl, rfl⟩
        · rw [if_neg hc] at hm
          refine j_aload_n G d_M_get_146 rfl ?_
          refine j_iconst (v := 4) G d_M_get_147 (by decide) ?_
          obtain ⟨v26, hv26, hm⟩ := Option.bind_eq_some_iff.mp hm
          obtain ⟨v27, hv27, hm⟩ := Option.bind_eq_some_iff.mp hm
          refine j_callV (As := [aI (4 : Int32)]) G d_M_get_148 (c_M_fail _ G.off _ _ _ _ _ _ _ hv27) mw_M_fail mi_M_fail lk_M_159 rfl hv26 rfl rfl (Nat.le_of_ble_eq_true rfl) ⟨by decide, by decide⟩ ⟨by decide, by decide⟩ (fun v9 w9 hp => ?_)
          obtain ⟨rfl, rfl⟩ := hp
          refine j_i2l G d_M_get_151 ?_
          obtain rfl := Option.some.inj hm
          exact j_lret G E d_M_get_152 ⟨by decide, by decide⟩ ⟨rfl, rfl⟩
      · rw [if_neg hc] at hm
        refine j_aload_n G d_M_get_55 rfl ?_
        refine j_iconst (v := 3) G d_M_get_56 (by decide) ?_
        obtain ⟨v28, hv28, hm⟩ := Option.bind_eq_some_iff.mp hm
        obtain ⟨v29, hv29, hm⟩ := Option.bind_eq_some_iff.mp hm
        refine j_callV (As := [aI (3 : Int32)]) G d_M_get_57 (c_M_fail _ G.off _ _ _ _ _ _ _ hv29) mw_M_fail mi_M_fail lk_M_159 rfl hv28 rfl rfl (Nat.le_of_ble_eq_true rfl) ⟨by decide, by decide⟩ ⟨by decide, by decide⟩ (fun v9 w9 hp => ?_)
        obtain ⟨rfl, rfl⟩ := hp
        refine j_i2l G d_M_get_60 ?_
        obtain rfl := Option.some.inj hm
        exact j_lret G E d_M_get_61 ⟨by decide, by decide⟩ ⟨rfl, rfl⟩
    · rw [if_neg hc] at hm
      refine j_lconst (v := 0) G d_M_get_36 (by decide) ?_
      obtain rfl := Option.some.inj hm
      exact j_lret G E d_M_get_37 ⟨by decide, by decide⟩ ⟨rfl, rfl⟩
  clear ho2
  have hm := hj2
  clear hj2
  refine j_if_ne (tgt := 14) G d_M_get_7 rfl (fun hc => ?_) (fun hc => ?_)
  · rw [if_neg hc] at hm
    refine j_aload_n G d_M_get_14 rfl ?_
    obtain ⟨v30, hv30, hm⟩ := Option.bind_eq_some_iff.mp hm
    refine j_gI G d_M_get_15 fl_M_137 hv30 ?_
    refine j_if_eq (tgt := 25) G d_M_get_18 rfl (fun hc => ?_) (fun hc => ?_)
    · rw [if_pos hc] at hm
      refine j_iconst (v := 0) G d_M_get_25 (by decide) ?_
      obtain rfl := Option.some.inj hm
      refine j_lv [(0, aRf o), (1, aL p1), (3, aI p2)] rfl ?_
      exact hJ2
    · rw [if_neg hc] at hm
      refine j_iconst (v := 2) G d_M_get_21 (by decide) ?_
      refine j_goto (tgt := 26) G d_M_get_22 rfl ?_
      obtain rfl := Option.some.inj hm
      refine j_lv [(0, aRf o), (1, aL p1), (3, aI p2)] rfl ?_
      exact hJ2
  · rw [if_pos hc] at hm
    refine j_iconst (v := 1) G d_M_get_10 (by decide) ?_
    refine j_goto (tgt := 26) G d_M_get_11 rfl ?_
    obtain rfl := Option.some.inj hm
    refine j_lv [(0, aRf o), (1, aL p1), (3, aI p2)] rfl ?_
    exact hJ2
noncomputable def f_M_keys (w : aw_W) (o : Option Nat) : Option (Int32 × aw_W) :=
  (aw_gI w o 7 21).bind fun v1 =>
  (if v1 = 0 then
      some (0 : Int32)
    else
      some (1 : Int32) : Option (Int32)).bind fun j2 =>
  (aw_pV w o 7 0 (.int j2)).bind fun v3 =>
  (aw_gI v3 o 7 21).bind fun v4 =>
  (if v4 = 0 then
      (aw_gI v3 o 7 15).bind fun v5 =>
      some v5
    else
      some (0 : Int32) : Option (Int32)).bind fun j6 =>
  some (j6, v3)
abbrev rm_M_keys : Room := { frames := 0, cells := 0, slots := 0, locals := 0 }
set_option maxRecDepth 100000 in
set_option maxHeartbeats 4000000 in
theorem c_M_keys (l : Launch) (hl : l.stackTraces = false) (D : va_G) (dA : Nat → ClassId) (base : Nat) (w : aw_W) (o : Option Nat) (r : Int32 × aw_W) (hm : f_M_keys w o = some r) : aj_Ct l D dA base m_M_keys rm_M_keys [aRf o] w (fun v w' => some (aI r.1) = v ∧ r.2 = w') := by
  refine aj_enter hl (by decide) (Nat.le_of_ble_eq_true rfl) ?_
  intro Γ G E
  unfold f_M_keys at hm
  refine j_aload_n G d_M_keys_0 rfl ?_
  refine j_aload_n G d_M_keys_1 rfl ?_
  obtain ⟨v1, hv1, hm⟩ := Option.bind_eq_some_iff.mp hm
  refine j_gI G d_M_keys_2 fl_M_137 hv1 ?_
  obtain ⟨j2, hj2, ho2⟩ := Option.bind_eq_some_iff.mp hm
  clear hm
  have hJ2 : aj_J Γ 1 (0, 0) 13 [(0, aRf o)] [aI j2, aRf o] w := by
    clear hj2
    have hm := ho2
    clear ho2
    obtain ⟨v3, hv3, hm⟩ := Option.bind_eq_some_iff.mp hm
    refine j_pV (ty := aY_M 0) G d_M_keys_13 fl_M_63 ac_M (aw_T_of_M 0 (by decide) rfl) rfl rfl hv3 ?_
    refine j_aload_n G d_M_keys_16 rfl ?_
    obtain ⟨v4, hv4, hm⟩ := Option.bind_eq_some_iff.mp hm
    refine j_gI G d_M_keys_17 fl_M_137 hv4 ?_
    obtain ⟨j5, hj5, ho5⟩ := Option.bind_eq_some_iff.mp hm
    clear hm
    have hJ5 : aj_J Γ 1 (0, 0) 31 [] [aI j5] v3 := by
      clear hj5
      have hm := ho5
      clear ho5
      obtain rfl := Option.some.inj hm
      exact j_iret G E d_M_keys_31 ⟨by decide, by decide⟩ ⟨rfl, rfl⟩
    clear ho5
    have hm := hj5
    clear hj5
    refine j_if_eq (tgt := 27) G d_M_keys_20 rfl (fun hc => ?_) (fun hc => ?_)
    · rw [if_pos hc] at hm
      refine j_aload_n G d_M_keys_27 rfl ?_
      obtain ⟨v6, hv6, hm⟩ := Option.bind_eq_some_iff.mp hm
      refine j_gI G d_M_keys_28 fl_M_85 hv6 ?_
      obtain rfl := Option.some.inj hm
      refine j_lv [] rfl ?_
      exact hJ5
    · rw [if_neg hc] at hm
      refine j_iconst (v := 0) G d_M_keys_23 (by decide) ?_
      refine j_goto (tgt := 31) G d_M_keys_24 rfl ?_
      obtain rfl := Option.some.inj hm
      refine j_lv [] rfl ?_
      exact hJ5
  clear ho2
  have hm := hj2
  clear hj2
  refine j_if_eq (tgt := 12) G d_M_keys_5 rfl (fun hc => ?_) (fun hc => ?_)
  · rw [if_pos hc] at hm
    refine j_iconst (v := 0) G d_M_keys_12 (by decide) ?_
    obtain rfl := Option.some.inj hm
    refine j_lv [(0, aRf o)] rfl ?_
    exact hJ2
  · rw [if_neg hc] at hm
    refine j_iconst (v := 1) G d_M_keys_8 (by decide) ?_
    refine j_goto (tgt := 13) G d_M_keys_9 rfl ?_
    obtain rfl := Option.some.inj hm
    refine j_lv [(0, aRf o)] rfl ?_
    exact hJ2
noncomputable def f_M_key (w : aw_W) (o : Option Nat) (p1 : Int32) (p2 : Int32) : Option (Int64 × aw_W) :=
  (f_M_in w p2 (0 : Int32) (3 : Int32)).bind fun v1 =>
  (if v1 = 0 then
      some (1 : Int32)
    else
      (aw_gI w o 7 21).bind fun v2 =>
      if v2 = 0 then
        (aw_gI w o 7 15).bind fun v3 =>
        (f_M_in w p1 (0 : Int32) (v3 - (1 : Int32))).bind fun v4 =>
        if v4 = 0 then
          some (3 : Int32)
        else
          some (0 : Int32)
      else
        some (2 : Int32) : Option (Int32)).bind fun j5 =>
  (aw_pV w o 7 0 (.int j5)).bind fun v6 =>
  (aw_gI v6 o 7 0).bind fun v7 =>
  if v7 ≤ 0 then
    (aw_obj v6 o 7).bind fun v8 =>
    (f_M_ordered v6 o p1).bind fun v9 =>
    (aw_gR v6 o 7 18).bind fun v10 =>
    (aw_aI v6 v10 1 v9).bind fun v11 =>
    (aw_obj v6 o 7).bind fun v12 =>
    (f_M_rowOf v6 o v11).bind fun v13 =>
    (if p2 = 0 then
        (aw_gR v6 o 7 17).bind fun v14 =>
        (aw_aI v6 v14 1 v9).bind fun v15 =>
        some v15.toInt64
      else
        if p2 = (1 : Int32) then
          (aw_gR v6 o 7 16).bind fun v16 =>
          (aw_aL v6 v16 2 v9).bind fun v17 =>
          some v17
        else
          if p2 = (2 : Int32) then
            (aw_gR v6 o 7 18).bind fun v18 =>
            (aw_aI v6 v18 1 v9).bind fun v19 =>
            some v19.toInt64
          else
            (aw_gR v6 o 7 10).bind fun v20 =>
            (aw_gR v6 o 7 19).bind fun v21 =>
            (aw_aI v6 v21 1 v9).bind fun v22 =>
            (aw_aI v6 v20 1 (((12 : Int32) * v13) + v22)).bind fun v23 =>
            some v23.toInt64 : Option (Int64)).bind fun j24 =>
    some (j24, v6)
  else
    some ((0 : Int64), v6)
abbrev rm_M_key : Room := { frames := 3, cells := 0, slots := 0, locals := 69 }
set_option maxRecDepth 100000 in
set_option maxHeartbeats 4000000 in
theorem c_M_key (l : Launch) (hl : l.stackTraces = false) (D : va_G) (dA : Nat → ClassId) (base : Nat) (w : aw_W) (o : Option Nat) (p1 : Int32) (p2 : Int32) (r : Int64 × aw_W) (hm : f_M_key w o p1 p2 = some r) : aj_Ct l D dA base m_M_key rm_M_key [aRf o, aI p1, aI p2] w (fun v w' => some (aL r.1) = v ∧ r.2 = w') := by
  refine aj_enter hl (by decide) (Nat.le_of_ble_eq_true rfl) ?_
  intro Γ G E
  unfold f_M_key at hm
  refine j_aload_n G d_M_key_0 rfl ?_
  refine j_iload_n G d_M_key_1 rfl ?_
  refine j_iconst (v := 0) G d_M_key_2 (by decide) ?_
  refine j_iconst (v := 3) G d_M_key_3 (by decide) ?_
  obtain ⟨v1, hv1, hm⟩ := Option.bind_eq_some_iff.mp hm
  refine j_callS (As := [aI p2, aI (0 : Int32), aI (3 : Int32)]) G d_M_key_4 (c_M_in _ G.off _ _ _ _ _ _ _ _ hv1) mw_M_in ms_M_in lk_M_133 rfl rfl (Nat.le_of_ble_eq_true rfl) ⟨by decide, by decide⟩ ⟨by decide, by decide⟩ (fun v9 w9 hp => ?_)
  obtain ⟨rfl, rfl⟩ := hp
  obtain ⟨j2, hj2, ho2⟩ := Option.bind_eq_some_iff.mp hm
  clear hm
  have hJ2 : aj_J Γ 5 (0, 0) 44 [(0, aRf o), (1, aI p1), (2, aI p2)] [aI j2, aRf o] w := by
    clear hj2
    have hm := ho2
    clear ho2
    obtain ⟨v3, hv3, hm⟩ := Option.bind_eq_some_iff.mp hm
    refine j_pV (ty := aY_M 0) G d_M_key_44 fl_M_63 ac_M (aw_T_of_M 0 (by decide) rfl) rfl rfl hv3 ?_
    refine j_aload_n G d_M_key_47 rfl ?_
    obtain ⟨v4, hv4, hm⟩ := Option.bind_eq_some_iff.mp hm
    refine j_gI G d_M_key_48 fl_M_63 hv4 ?_
    refine j_if_le (tgt := 56) G d_M_key_51 rfl (fun hc => ?_) (fun hc => ?_)
    · rw [if_pos hc] at hm
      refine j_aload_n G d_M_key_56 rfl ?_
      refine j_iload_n G d_M_key_57 rfl ?_
      obtain ⟨v5, hv5, hm⟩ := Option.bind_eq_some_iff.mp hm
      obtain ⟨v6, hv6, hm⟩ := Option.bind_eq_some_iff.mp hm
      refine j_callV (As := [aI p1]) G d_M_key_58 (c_M_ordered _ G.off _ _ _ _ _ _ _ hv6) mw_M_ordered mi_M_ordered lk_M_172 rfl hv5 rfl rfl (Nat.le_of_ble_eq_true rfl) ⟨by decide, by decide⟩ ⟨by decide, by decide⟩ (fun v9 w9 hp => ?_)
      obtain ⟨rfl, rfl⟩ := hp
      refine j_istore_n G d_M_key_61 (by decide) ?_
      refine j_aload_n G d_M_key_62 rfl ?_
      refine j_aload_n G d_M_key_63 rfl ?_
      obtain ⟨v7, hv7, hm⟩ := Option.bind_eq_some_iff.mp hm
      refine j_gR G d_M_key_64 fl_M_57 hv7 ?_
      refine j_iload_n G d_M_key_67 rfl ?_
      obtain ⟨v8, hv8, hm⟩ := Option.bind_eq_some_iff.mp hm
      refine j_iald G d_M_key_68 hv8 ?_
      obtain ⟨v9, hv9, hm⟩ := Option.bind_eq_some_iff.mp hm
      obtain ⟨v10, hv10, hm⟩ := Option.bind_eq_some_iff.mp hm
      refine j_callV (As := [aI v8]) G d_M_key_69 (c_M_rowOf _ G.off _ _ _ _ _ _ _ hv10) mw_M_rowOf mi_M_rowOf lk_M_163 rfl hv9 rfl rfl (Nat.le_of_ble_eq_true rfl) ⟨by decide, by decide⟩ ⟨by decide, by decide⟩ (fun v9 w9 hp => ?_)
      obtain ⟨rfl, rfl⟩ := hp
      refine j_istore G d_M_key_72 (by decide) ?_
      refine j_iload_n G d_M_key_74 rfl ?_
      obtain ⟨j11, hj11, ho11⟩ := Option.bind_eq_some_iff.mp hm
      clear hm
      have hJ11 : aj_J Γ 5 (0, 0) 135 [] [aL j11] v3 := by
        clear hj11
        have hm := ho11
        clear ho11
        obtain rfl := Option.some.inj hm
        exact j_lret G E d_M_key_135 ⟨by decide, by decide⟩ ⟨rfl, rfl⟩
      clear ho11
      have hm := hj11
      clear hj11
      refine j_if_ne (tgt := 88) G d_M_key_75 rfl (fun hc => ?_) (fun hc => ?_)
      · rw [if_neg hc] at hm
        refine j_iload_n G d_M_key_88 rfl ?_
        refine j_iconst (v := 1) G d_M_key_89 (by decide) ?_
        refine j_icmp_ne (tgt := 102) G d_M_key_90 rfl (fun hc => ?_) (fun hc => ?_)
        · rw [if_neg hc] at hm
          refine j_iload_n G d_M_key_102 rfl ?_
          refine j_iconst (v := 2) G d_M_key_103 (by decide) ?_
          refine j_icmp_ne (tgt := 117) G d_M_key_104 rfl (fun hc => ?_) (fun hc => ?_)
          · rw [if_neg hc] at hm
            refine j_aload_n G d_M_key_117 rfl ?_
            obtain ⟨v12, hv12, hm⟩ := Option.bind_eq_some_iff.mp hm
            refine j_gR G d_M_key_118 fl_M_35 hv12 ?_
            refine j_bipush (v := 12) G d_M_key_121 (by decide) ?_
            refine j_iload G d_M_key_123 rfl ?_
            refine j_imul G d_M_key_125 ?_
            refine j_aload_n G d_M_key_126 rfl ?_
            obtain ⟨v13, hv13, hm⟩ := Option.bind_eq_some_iff.mp hm
            refine j_gR G d_M_key_127 fl_M_60 hv13 ?_
            refine j_iload_n G d_M_key_130 rfl ?_
            obtain ⟨v14, hv14, hm⟩ := Option.bind_eq_some_iff.mp hm
            refine j_iald G d_M_key_131 hv14 ?_
            refine j_iadd G d_M_key_132 ?_
            obtain ⟨v15, hv15, hm⟩ := Option.bind_eq_some_iff.mp hm
            refine j_iald G d_M_key_133 hv15 ?_
            refine j_i2l G d_M_key_134 ?_
            obtain rfl := Option.some.inj hm
            refine j_lv [] rfl ?_
            exact hJ11
          · rw [if_pos hc] at hm
            refine j_aload_n G d_M_key_107 rfl ?_
            obtain ⟨v16, hv16, hm⟩ := Option.bind_eq_some_iff.mp hm
            refine j_gR G d_M_key_108 fl_M_57 hv16 ?_
            refine j_iload_n G d_M_key_111 rfl ?_
            obtain ⟨v17, hv17, hm⟩ := Option.bind_eq_some_iff.mp hm
            refine j_iald G d_M_key_112 hv17 ?_
            refine j_i2l G d_M_key_113 ?_
            refine j_goto (tgt := 135) G d_M_key_114 rfl ?_
            obtain rfl := Option.some.inj hm
            refine j_lv [] rfl ?_
            exact hJ11
        · rw [if_pos hc] at hm
          refine j_aload_n G d_M_key_93 rfl ?_
          obtain ⟨v18, hv18, hm⟩ := Option.bind_eq_some_iff.mp hm
          refine j_gR G d_M_key_94 fl_M_50 hv18 ?_
          refine j_iload_n G d_M_key_97 rfl ?_
          obtain ⟨v19, hv19, hm⟩ := Option.bind_eq_some_iff.mp hm
          refine j_lald G d_M_key_98 hv19 ?_
          refine j_goto (tgt := 135) G d_M_key_99 rfl ?_
          obtain rfl := Option.some.inj hm
          refine j_lv [] rfl ?_
          exact hJ11
      · rw [if_pos hc] at hm
        refine j_aload_n G d_M_key_78 rfl ?_
        obtain ⟨v20, hv20, hm⟩ := Option.bind_eq_some_iff.mp hm
        refine j_gR G d_M_key_79 fl_M_54 hv20 ?_
        refine j_iload_n G d_M_key_82 rfl ?_
        obtain ⟨v21, hv21, hm⟩ := Option.bind_eq_some_iff.mp hm
        refine j_iald G d_M_key_83 hv21 ?_
        refine j_i2l G d_M_key_84 ?_
        refine j_goto (tgt := 135) G d_M_key_85 rfl ?_
        obtain rfl := Option.some.inj hm
        refine j_lv [] rfl ?_
        exact hJ11
    · rw [if_neg hc] at hm
      refine j_lconst (v := 0) G d_M_key_54 (by decide) ?_
      obtain rfl := Option.some.inj hm
      exact j_lret G E d_M_key_55 ⟨by decide, by decide⟩ ⟨rfl, rfl⟩
  clear ho2
  have hm := hj2
  clear hj2
  refine j_if_ne (tgt := 14) G d_M_key_7 rfl (fun hc => ?_) (fun hc => ?_)
  · rw [if_neg hc] at hm
    refine j_aload_n G d_M_key_14 rfl ?_
    obtain ⟨v22, hv22, hm⟩ := Option.bind_eq_some_iff.mp hm
    refine j_gI G d_M_key_15 fl_M_137 hv22 ?_
    refine j_if_eq (tgt := 25) G d_M_key_18 rfl (fun hc => ?_) (fun hc => ?_)
    · rw [if_pos hc] at hm
      refine j_iload_n G d_M_key_25 rfl ?_
      refine j_iconst (v := 0) G d_M_key_26 (by decide) ?_
      refine j_aload_n G d_M_key_27 rfl ?_
      obtain ⟨v23, hv23, hm⟩ := Option.bind_eq_some_iff.mp hm
      refine j_gI G d_M_key_28 fl_M_85 hv23 ?_
      refine j_iconst (v := 1) G d_M_key_31 (by decide) ?_
      refine j_isub G d_M_key_32 ?_
      obtain ⟨v24, hv24, hm⟩ := Option.bind_eq_some_iff.mp hm
      refine j_callS (As := [aI p1, aI (0 : Int32), aI (v23 - (1 : Int32))]) G d_M_key_33 (c_M_in _ G.off _ _ _ _ _ _ _ _ hv24) mw_M_in ms_M_in lk_M_133 rfl rfl (Nat.le_of_ble_eq_true rfl) ⟨by decide, by decide⟩ ⟨by decide, by decide⟩ (fun v9 w9 hp => ?_)
      obtain ⟨rfl, rfl⟩ := hp
      refine j_if_ne (tgt := 43) G d_M_key_36 rfl (fun hc => ?_) (fun hc => ?_)
      · rw [if_neg hc] at hm
        refine j_iconst (v := 0) G d_M_key_43 (by decide) ?_
        obtain rfl := Option.some.inj hm
        refine j_lv [(0, aRf o), (1, aI p1), (2, aI p2)] rfl ?_
        exact hJ2
      · rw [if_pos hc] at hm
        refine j_iconst (v := 3) G d_M_key_39 (by decide) ?_
        refine j_goto (tgt := 44) G d_M_key_40 rfl ?_
        obtain rfl := Option.some.inj hm
        refine j_lv [(0, aRf o), (1, aI p1), (2, aI p2)] rfl ?_
        exact hJ2
    · rw [if_neg hc] at hm
      refine j_iconst (v := 2) G d_M_key_21 (by decide) ?_
      refine j_goto (tgt := 44) G d_M_key_22 rfl ?_
      obtain rfl := Option.some.inj hm
      refine j_lv [(0, aRf o), (1, aI p1), (2, aI p2)] rfl ?_
      exact hJ2
  · rw [if_pos hc] at hm
    refine j_iconst (v := 1) G d_M_key_10 (by decide) ?_
    refine j_goto (tgt := 44) G d_M_key_11 rfl ?_
    obtain rfl := Option.some.inj hm
    refine j_lv [(0, aRf o), (1, aI p1), (2, aI p2)] rfl ?_
    exact hJ2
noncomputable def f_M_sync (w : aw_W) (o : Option Nat) : Option (aw_W) :=
  (aw_gI w o 7 21).bind fun v1 =>
  (if v1 = 0 then
      some (0 : Int32)
    else
      some (1 : Int32) : Option (Int32)).bind fun j2 =>
  (aw_pV w o 7 0 (.int j2)).bind fun v3 =>
  (aw_gI v3 o 7 0).bind fun v4 =>
  (if v4 = 0 then
      (aw_gI v3 o 7 20).bind fun v5 =>
      if v5 = 0 then
        some v3
      else
        (aw_gR v3 o 7 4).bind fun v6 =>
        (aw_gI v3 o 7 1).bind fun v7 =>
        (aw_gR v3 o 7 3).bind fun v8 =>
        (aw_gI v3 o 7 1).bind fun v9 =>
        (aw_aI v3 v8 1 (v9 - (1 : Int32))).bind fun v10 =>
        (aw_sI v3 v6 1 (v7 - (1 : Int32)) v10).bind fun v11 =>
        some v11
    else
      some v3 : Option (aw_W)).bind fun j12 =>
  some j12
abbrev rm_M_sync : Room := { frames := 0, cells := 0, slots := 0, locals := 0 }
set_option maxRecDepth 100000 in
set_option maxHeartbeats 4000000 in
theorem c_M_sync (l : Launch) (hl : l.stackTraces = false) (D : va_G) (dA : Nat → ClassId) (base : Nat) (w : aw_W) (o : Option Nat) (r : aw_W) (hm : f_M_sync w o = some r) : aj_Ct l D dA base m_M_sync rm_M_sync [aRf o] w (fun v w' => none = v ∧ r = w') := by
  refine aj_enter hl (by decide) (Nat.le_of_ble_eq_true rfl) ?_
  intro Γ G E
  unfold f_M_sync at hm
  refine j_aload_n G d_M_sync_0 rfl ?_
  refine j_aload_n G d_M_sync_1 rfl ?_
  obtain ⟨v1, hv1, hm⟩ := Option.bind_eq_some_iff.mp hm
  refine j_gI G d_M_sync_2 fl_M_137 hv1 ?_
  obtain ⟨j2, hj2, ho2⟩ := Option.bind_eq_some_iff.mp hm
  clear hm
  have hJ2 : aj_J Γ 1 (0, 0) 13 [(0, aRf o)] [aI j2, aRf o] w := by
    clear hj2
    have hm := ho2
    clear ho2
    obtain ⟨v3, hv3, hm⟩ := Option.bind_eq_some_iff.mp hm
    refine j_pV (ty := aY_M 0) G d_M_sync_13 fl_M_63 ac_M (aw_T_of_M 0 (by decide) rfl) rfl rfl hv3 ?_
    refine j_aload_n G d_M_sync_16 rfl ?_
    obtain ⟨v4, hv4, hm⟩ := Option.bind_eq_some_iff.mp hm
    refine j_gI G d_M_sync_17 fl_M_63 hv4 ?_
    obtain ⟨j5, hj5, ho5⟩ := Option.bind_eq_some_iff.mp hm
    clear hm
    have hJ5 : aj_J Γ 1 (0, 0) 52 [] [] j5 := by
      clear hj5
      have hm := ho5
      clear ho5
      obtain rfl := Option.some.inj hm
      exact j_vret G E d_M_sync_52 ⟨by decide, by decide⟩ ⟨rfl, rfl⟩
    clear ho5
    have hm := hj5
    clear hj5
    refine j_if_ne (tgt := 52) G d_M_sync_20 rfl (fun hc => ?_) (fun hc => ?_)
    · rw [if_neg hc] at hm
      obtain rfl := Option.some.inj hm
      refine j_lv [] rfl ?_
      exact hJ5
    · rw [if_pos hc] at hm
      refine j_aload_n G d_M_sync_23 rfl ?_
      obtain ⟨v6, hv6, hm⟩ := Option.bind_eq_some_iff.mp hm
      refine j_gI G d_M_sync_24 fl_M_102 hv6 ?_
      refine j_if_eq (tgt := 52) G d_M_sync_27 rfl (fun hc => ?_) (fun hc => ?_)
      · rw [if_pos hc] at hm
        obtain rfl := Option.some.inj hm
        refine j_lv [] rfl ?_
        exact hJ5
      · rw [if_neg hc] at hm
        refine j_aload_n G d_M_sync_30 rfl ?_
        obtain ⟨v7, hv7, hm⟩ := Option.bind_eq_some_iff.mp hm
        refine j_gR G d_M_sync_31 fl_M_16 hv7 ?_
        refine j_aload_n G d_M_sync_34 rfl ?_
        obtain ⟨v8, hv8, hm⟩ := Option.bind_eq_some_iff.mp hm
        refine j_gI G d_M_sync_35 fl_M_99 hv8 ?_
        refine j_iconst (v := 1) G d_M_sync_38 (by decide) ?_
        refine j_isub G d_M_sync_39 ?_
        refine j_aload_n G d_M_sync_40 rfl ?_
        obtain ⟨v9, hv9, hm⟩ := Option.bind_eq_some_iff.mp hm
        refine j_gR G d_M_sync_41 fl_M_13 hv9 ?_
        refine j_aload_n G d_M_sync_44 rfl ?_
        obtain ⟨v10, hv10, hm⟩ := Option.bind_eq_some_iff.mp hm
        refine j_gI G d_M_sync_45 fl_M_99 hv10 ?_
        refine j_iconst (v := 1) G d_M_sync_48 (by decide) ?_
        refine j_isub G d_M_sync_49 ?_
        obtain ⟨v11, hv11, hm⟩ := Option.bind_eq_some_iff.mp hm
        refine j_iald G d_M_sync_50 hv11 ?_
        obtain ⟨v12, hv12, hm⟩ := Option.bind_eq_some_iff.mp hm
        refine j_iast G d_M_sync_51 hv12 ?_
        obtain rfl := Option.some.inj hm
        refine j_lv [] rfl ?_
        exact hJ5
  clear ho2
  have hm := hj2
  clear hj2
  refine j_if_eq (tgt := 12) G d_M_sync_5 rfl (fun hc => ?_) (fun hc => ?_)
  · rw [if_pos hc] at hm
    refine j_iconst (v := 0) G d_M_sync_12 (by decide) ?_
    obtain rfl := Option.some.inj hm
    refine j_lv [(0, aRf o)] rfl ?_
    exact hJ2
  · rw [if_neg hc] at hm
    refine j_iconst (v := 1) G d_M_sync_8 (by decide) ?_
    refine j_goto (tgt := 13) G d_M_sync_9 rfl ?_
    obtain rfl := Option.some.inj hm
    refine j_lv [(0, aRf o)] rfl ?_
    exact hJ2
noncomputable def f_M_lose (w : aw_W) (o : Option Nat) (p1 : Int32) : Option (aw_W) :=
  (f_M_in w p1 (0 : Int32) (100 : Int32)).bind fun v1 =>
  (if v1 = 0 then
      some (1 : Int32)
    else
      some (0 : Int32) : Option (Int32)).bind fun j2 =>
  (aw_pV w o 7 0 (.int j2)).bind fun v3 =>
  (aw_gI v3 o 7 0).bind fun v4 =>
  if v4 ≤ 0 then
    (aw_gI v3 o 7 20).bind fun v5 =>
    (if v5 = 0 then
        some v3
      else
        (aw_gI v3 o 7 1).bind fun v6 =>
        (aw_gR v3 o 7 4).bind fun v7 =>
        (aw_aI v3 v7 1 (v6 - (1 : Int32))).bind fun v8 =>
        (aw_gR v3 o 7 3).bind fun v9 =>
        (aw_gR v3 o 7 3).bind fun v10 =>
        (aw_aI v3 v10 1 (v6 - (1 : Int32))).bind fun v11 =>
        (if v11 ≤ (v8 + p1) then
            (aw_gR v3 o 7 3).bind fun v12 =>
            (aw_aI v3 v12 1 (v6 - (1 : Int32))).bind fun v13 =>
            some v13
          else
            some (v8 + p1) : Option (Int32)).bind fun j14 =>
        (aw_sI v3 v9 1 (v6 - (1 : Int32)) j14).bind fun v15 =>
        (aw_gR v15 o 7 4).bind fun v16 =>
        (aw_gR v15 o 7 3).bind fun v17 =>
        (aw_aI v15 v17 1 (v6 - (1 : Int32))).bind fun v18 =>
        (aw_sI v15 v16 1 (v6 - (1 : Int32)) v18).bind fun v19 =>
        some v19 : Option (aw_W)).bind fun j20 =>
    (aw_pV j20 o 7 20 (.int (0 : Int32))).bind fun v21 =>
    (aw_pV v21 o 7 24 (.int (0 : Int32))).bind fun v22 =>
    (aw_pV v22 o 7 21 (.int (1 : Int32))).bind fun v23 =>
    some v23
  else
    some v3
abbrev rm_M_lose : Room := { frames := 1, cells := 0, slots := 0, locals := 22 }
set_option maxRecDepth 100000 in
set_option maxHeartbeats 4000000 in
theorem c_M_lose (l : Launch) (hl : l.stackTraces = false) (D : va_G) (dA : Nat → ClassId) (base : Nat) (w : aw_W) (o : Option Nat) (p1 : Int32) (r : aw_W) (hm : f_M_lose w o p1 = some r) : aj_Ct l D dA base m_M_lose rm_M_lose [aRf o, aI p1] w (fun v w' => none = v ∧ r = w') := by
  refine aj_enter hl (by decide) (Nat.le_of_ble_eq_true rfl) ?_
  intro Γ G E
  unfold f_M_lose at hm
  refine j_aload_n G d_M_lose_0 rfl ?_
  refine j_iload_n G d_M_lose_1 rfl ?_
  refine j_iconst (v := 0) G d_M_lose_2 (by decide) ?_
  refine j_bipush (v := 100) G d_M_lose_3 (by decide) ?_
  obtain ⟨v1, hv1, hm⟩ := Option.bind_eq_some_iff.mp hm
  refine j_callS (As := [aI p1, aI (0 : Int32), aI (100 : Int32)]) G d_M_lose_5 (c_M_in _ G.off _ _ _ _ _ _ _ _ hv1) mw_M_in ms_M_in lk_M_133 rfl rfl (Nat.le_of_ble_eq_true rfl) ⟨by decide, by decide⟩ ⟨by decide, by decide⟩ (fun v9 w9 hp => ?_)
  obtain ⟨rfl, rfl⟩ := hp
  obtain ⟨j2, hj2, ho2⟩ := Option.bind_eq_some_iff.mp hm
  clear hm
  have hJ2 : aj_J Γ 4 (0, 0) 16 [(0, aRf o), (1, aI p1)] [aI j2, aRf o] w := by
    clear hj2
    have hm := ho2
    clear ho2
    obtain ⟨v3, hv3, hm⟩ := Option.bind_eq_some_iff.mp hm
    refine j_pV (ty := aY_M 0) G d_M_lose_16 fl_M_63 ac_M (aw_T_of_M 0 (by decide) rfl) rfl rfl hv3 ?_
    refine j_aload_n G d_M_lose_19 rfl ?_
    obtain ⟨v4, hv4, hm⟩ := Option.bind_eq_some_iff.mp hm
    refine j_gI G d_M_lose_20 fl_M_63 hv4 ?_
    refine j_if_le (tgt := 27) G d_M_lose_23 rfl (fun hc => ?_) (fun hc => ?_)
    · rw [if_pos hc] at hm
      refine j_aload_n G d_M_lose_27 rfl ?_
      obtain ⟨v5, hv5, hm⟩ := Option.bind_eq_some_iff.mp hm
      refine j_gI G d_M_lose_28 fl_M_102 hv5 ?_
      obtain ⟨j6, hj6, ho6⟩ := Option.bind_eq_some_iff.mp hm
      clear hm
      have hJ6 : aj_J Γ 4 (0, 0) 88 [(0, aRf o)] [] j6 := by
        clear hj6
        have hm := ho6
        clear ho6
        refine j_aload_n G d_M_lose_88 rfl ?_
        refine j_iconst (v := 0) G d_M_lose_89 (by decide) ?_
        obtain ⟨v7, hv7, hm⟩ := Option.bind_eq_some_iff.mp hm
        refine j_pV (ty := aY_M 20) G d_M_lose_90 fl_M_102 ac_M (aw_T_of_M 20 (by decide) rfl) (by decide) (by decide) hv7 ?_
        refine j_aload_n G d_M_lose_93 rfl ?_
        refine j_iconst (v := 0) G d_M_lose_94 (by decide) ?_
        obtain ⟨v8, hv8, hm⟩ := Option.bind_eq_some_iff.mp hm
        refine j_pV (ty := aY_M 24) G d_M_lose_95 fl_M_175 ac_M (aw_T_of_M 24 (by decide) rfl) (by decide) (by decide) hv8 ?_
        refine j_aload_n G d_M_lose_98 rfl ?_
        refine j_iconst (v := 1) G d_M_lose_99 (by decide) ?_
        obtain ⟨v9, hv9, hm⟩ := Option.bind_eq_some_iff.mp hm
        refine j_pV (ty := aY_M 21) G d_M_lose_100 fl_M_137 ac_M (aw_T_of_M 21 (by decide) rfl) (by decide) (by decide) hv9 ?_
        obtain rfl := Option.some.inj hm
        exact j_vret G E d_M_lose_103 ⟨by decide, by decide⟩ ⟨rfl, rfl⟩
      clear ho6
      have hm := hj6
      clear hj6
      refine j_if_eq (tgt := 88) G d_M_lose_31 rfl (fun hc => ?_) (fun hc => ?_)
      · rw [if_pos hc] at hm
        obtain rfl := Option.some.inj hm
        refine j_lv [(0, aRf o)] rfl ?_
        exact hJ6
      · rw [if_neg hc] at hm
        refine j_aload_n G d_M_lose_34 rfl ?_
        obtain ⟨v10, hv10, hm⟩ := Option.bind_eq_some_iff.mp hm
        refine j_gI G d_M_lose_35 fl_M_99 hv10 ?_
        refine j_iconst (v := 1) G d_M_lose_38 (by decide) ?_
        refine j_isub G d_M_lose_39 ?_
        refine j_istore_n G d_M_lose_40 (by decide) ?_
        refine j_aload_n G d_M_lose_41 rfl ?_
        obtain ⟨v11, hv11, hm⟩ := Option.bind_eq_some_iff.mp hm
        refine j_gR G d_M_lose_42 fl_M_16 hv11 ?_
        refine j_iload_n G d_M_lose_45 rfl ?_
        obtain ⟨v12, hv12, hm⟩ := Option.bind_eq_some_iff.mp hm
        refine j_iald G d_M_lose_46 hv12 ?_
        refine j_iload_n G d_M_lose_47 rfl ?_
        refine j_iadd G d_M_lose_48 ?_
        refine j_istore_n G d_M_lose_49 (by decide) ?_
        refine j_aload_n G d_M_lose_50 rfl ?_
        obtain ⟨v13, hv13, hm⟩ := Option.bind_eq_some_iff.mp hm
        refine j_gR G d_M_lose_51 fl_M_13 hv13 ?_
        refine j_iload_n G d_M_lose_54 rfl ?_
        refine j_iload_n G d_M_lose_55 rfl ?_
        refine j_aload_n G d_M_lose_56 rfl ?_
        obtain ⟨v14, hv14, hm⟩ := Option.bind_eq_some_iff.mp hm
        refine j_gR G d_M_lose_57 fl_M_13 hv14 ?_
        refine j_iload_n G d_M_lose_60 rfl ?_
        obtain ⟨v15, hv15, hm⟩ := Option.bind_eq_some_iff.mp hm
        refine j_iald G d_M_lose_61 hv15 ?_
        obtain ⟨j16, hj16, ho16⟩ := Option.bind_eq_some_iff.mp hm
        clear hm
        have hJ16 : aj_J Γ 4 (0, 0) 75 [(0, aRf o), (2, aI (v10 - (1 : Int32)))] [aI j16, aI (v10 - (1 : Int32)), aRf v13] v3 := by
          clear hj16
          have hm := ho16
          clear ho16
          obtain ⟨v17, hv17, hm⟩ := Option.bind_eq_some_iff.mp hm
          refine j_iast G d_M_lose_75 hv17 ?_
          refine j_aload_n G d_M_lose_76 rfl ?_
          obtain ⟨v18, hv18, hm⟩ := Option.bind_eq_some_iff.mp hm
          refine j_gR G d_M_lose_77 fl_M_16 hv18 ?_
          refine j_iload_n G d_M_lose_80 rfl ?_
          refine j_aload_n G d_M_lose_81 rfl ?_
          obtain ⟨v19, hv19, hm⟩ := Option.bind_eq_some_iff.mp hm
          refine j_gR G d_M_lose_82 fl_M_13 hv19 ?_
          refine j_iload_n G d_M_lose_85 rfl ?_
          obtain ⟨v20, hv20, hm⟩ := Option.bind_eq_some_iff.mp hm
          refine j_iald G d_M_lose_86 hv20 ?_
          obtain ⟨v21, hv21, hm⟩ := Option.bind_eq_some_iff.mp hm
          refine j_iast G d_M_lose_87 hv21 ?_
          obtain rfl := Option.some.inj hm
          refine j_lv [(0, aRf o)] rfl ?_
          exact hJ6
        clear ho16
        have hm := hj16
        clear hj16
        refine j_icmp_ge (tgt := 69) G d_M_lose_62 rfl (fun hc => ?_) (fun hc => ?_)
        · rw [if_pos hc] at hm
          refine j_aload_n G d_M_lose_69 rfl ?_
          obtain ⟨v22, hv22, hm⟩ := Option.bind_eq_some_iff.mp hm
          refine j_gR G d_M_lose_70 fl_M_13 hv22 ?_
          refine j_iload_n G d_M_lose_73 rfl ?_
          obtain ⟨v23, hv23, hm⟩ := Option.bind_eq_some_iff.mp hm
          refine j_iald G d_M_lose_74 hv23 ?_
          obtain rfl := Option.some.inj hm
          refine j_lv [(0, aRf o), (2, aI (v10 - (1 : Int32)))] rfl ?_
          exact hJ16
        · rw [if_neg hc] at hm
          refine j_iload_n G d_M_lose_65 rfl ?_
          refine j_goto (tgt := 75) G d_M_lose_66 rfl ?_
          obtain rfl := Option.some.inj hm
          refine j_lv [(0, aRf o), (2, aI (v10 - (1 : Int32)))] rfl ?_
          exact hJ16
    · rw [if_neg hc] at hm
      obtain rfl := Option.some.inj hm
      exact j_vret G E d_M_lose_26 ⟨by decide, by decide⟩ ⟨rfl, rfl⟩
  clear ho2
  have hm := hj2
  clear hj2
  refine j_if_eq (tgt := 15) G d_M_lose_8 rfl (fun hc => ?_) (fun hc => ?_)
  · rw [if_pos hc] at hm
    refine j_iconst (v := 1) G d_M_lose_15 (by decide) ?_
    obtain rfl := Option.some.inj hm
    refine j_lv [(0, aRf o), (1, aI p1)] rfl ?_
    exact hJ2
  · rw [if_neg hc] at hm
    refine j_iconst (v := 0) G d_M_lose_11 (by decide) ?_
    refine j_goto (tgt := 16) G d_M_lose_12 rfl ?_
    obtain rfl := Option.some.inj hm
    refine j_lv [(0, aRf o), (1, aI p1)] rfl ?_
    exact hJ2
noncomputable def f_M_tells (w : aw_W) (o : Option Nat) (p1 : Int32) : Option (Int32 × aw_W) :=
  (aw_gR w o 7 9).bind fun v1 =>
  (aw_sI w v1 1 p1 (0 : Int32)).bind fun v2 =>
  (aw_gR v2 o 7 7).bind fun v3 =>
  (aw_aI v2 v3 1 p1).bind fun v4 =>
  (aw_gR v2 o 7 6).bind fun v5 =>
  (aw_aI v2 v5 3 p1).bind fun v6 =>
  if v6 = 0 then
    some ((0 : Int32), v2)
  else
    (aw_gR v2 o 7 8).bind fun v7 =>
    (f_M_numberIn v2 v7 ((((120 : Int32) * p1) + v4) - (4 : Int32)) (4 : Int32)).bind fun v8 =>
    (aw_gR v2 o 7 8).bind fun v9 =>
    (f_M_sumOf v2 v9 ((120 : Int32) * p1) ((((120 : Int32) * p1) + v4) - (4 : Int32))).bind fun v10 =>
    if (lg_cmp v8 v10) = 0 then
      (aw_wh (σ := Int32 × Int32 × aw_W) (τ := (Int32 × Int32 × aw_W) ⊕ (Int32 × aw_W)) (fun s11 =>
        if ((((120 : Int32) * p1) + v4) - (4 : Int32)) ≤ (s11.2.1 + (5 : Int32)) then
          some (.inr (.inl (s11.1, s11.2.1, s11.2.2)))
        else
          (aw_gR s11.2.2 o 7 8).bind fun v12 =>
          (aw_aI s11.2.2 v12 1 (s11.2.1 + (2 : Int32))).bind fun v13 =>
          (aw_gR s11.2.2 o 7 8).bind fun v14 =>
          (aw_aI s11.2.2 v14 1 (s11.2.1 + (3 : Int32))).bind fun v15 =>
          (f_M_in s11.2.2 v13 (1 : Int32) (4 : Int32)).bind fun v16 =>
          if v16 = 0 then
            some (.inr (.inr ((0 : Int32), s11.2.2)))
          else
            if (8 : Int32) < v15 then
              some (.inr (.inr ((0 : Int32), s11.2.2)))
            else
              (aw_gR s11.2.2 o 7 8).bind fun v17 =>
              (aw_aI s11.2.2 v17 1 (s11.2.1 + (4 : Int32))).bind fun v18 =>
              if v18 = s11.1 then
                if ((((120 : Int32) * p1) + v4) - (4 : Int32)) < ((s11.2.1 + (5 : Int32)) + v13) then
                  some (.inr (.inr ((0 : Int32), s11.2.2)))
                else
                  (f_M_lengthOf s11.2.2 v13 v15).bind fun v19 =>
                  (aw_gR s11.2.2 o 7 3).bind fun v20 =>
                  (aw_aI s11.2.2 v20 1 p1).bind fun v21 =>
                  if (s11.1 + v19) ≤ v21 then
                    (aw_obj s11.2.2 o 7).bind fun v22 =>
                    (f_M_note s11.2.2 o p1 s11.1 v13 v15).bind fun v23 =>
                    (f_M_lengthOf v23 v13 v15).bind fun v24 =>
                    some (.inl (s11.1 + v24, (s11.2.1 + (5 : Int32)) + v13, v23))
                  else
                    some (.inr (.inr ((0 : Int32), s11.2.2)))
              else
                some (.inr (.inr ((0 : Int32), s11.2.2)))) ((0 : Int32), (120 : Int32) * p1, v2)).bind fun e25 =>
      match e25 with
      | .inl s26 =>
        (if s26.2.1 = ((((120 : Int32) * p1) + v4) - (4 : Int32)) then
            (aw_gR s26.2.2 o 7 3).bind fun v28 =>
            (aw_aI s26.2.2 v28 1 p1).bind fun v29 =>
            if s26.1 = v29 then
              some (1 : Int32)
            else
              some (0 : Int32)
          else
            some (0 : Int32) : Option (Int32)).bind fun j30 =>
        (aw_zz j30).bind fun v31 =>
        some (j30, s26.2.2)
      | .inr r27 => some r27
    else
      some ((0 : Int32), v2)
abbrev rm_M_tells : Room := { frames := 2, cells := 0, slots := 0, locals := 50 }
set_option maxRecDepth 100000 in
set_option maxHeartbeats 4000000 in
theorem c_M_tells (l : Launch) (hl : l.stackTraces = false) (D : va_G) (dA : Nat → ClassId) (base : Nat) (w : aw_W) (o : Option Nat) (p1 : Int32) (r : Int32 × aw_W) (hm : f_M_tells w o p1 = some r) : aj_Ct l D dA base m_M_tells rm_M_tells [aRf o, aI p1] w (fun v w' => some (aI r.1) = v ∧ r.2 = w') := by
  refine aj_enter hl (by decide) (Nat.le_of_ble_eq_true rfl) ?_
  intro Γ G E
  unfold f_M_tells at hm
  refine j_aload_n G d_M_tells_0 rfl ?_
  obtain ⟨v1, hv1, hm⟩ := Option.bind_eq_some_iff.mp hm
  refine j_gR G d_M_tells_1 fl_M_32 hv1 ?_
  refine j_iload_n G d_M_tells_4 rfl ?_
  refine j_iconst (v := 0) G d_M_tells_5 (by decide) ?_
  obtain ⟨v2, hv2, hm⟩ := Option.bind_eq_some_iff.mp hm
  refine j_iast G d_M_tells_6 hv2 ?_
  refine j_bipush (v := 120) G d_M_tells_7 (by decide) ?_
  refine j_iload_n G d_M_tells_9 rfl ?_
  refine j_imul G d_M_tells_10 ?_
  refine j_istore_n G d_M_tells_11 (by decide) ?_
  refine j_iload_n G d_M_tells_12 rfl ?_
  refine j_aload_n G d_M_tells_13 rfl ?_
  obtain ⟨v3, hv3, hm⟩ := Option.bind_eq_some_iff.mp hm
  refine j_gR G d_M_tells_14 fl_M_26 hv3 ?_
  refine j_iload_n G d_M_tells_17 rfl ?_
  obtain ⟨v4, hv4, hm⟩ := Option.bind_eq_some_iff.mp hm
  refine j_iald G d_M_tells_18 hv4 ?_
  refine j_iadd G d_M_tells_19 ?_
  refine j_iconst (v := 4) G d_M_tells_20 (by decide) ?_
  refine j_isub G d_M_tells_21 ?_
  refine j_istore_n G d_M_tells_22 (by decide) ?_
  refine j_aload_n G d_M_tells_23 rfl ?_
  obtain ⟨v5, hv5, hm⟩ := Option.bind_eq_some_iff.mp hm
  refine j_gR G d_M_tells_24 fl_M_22 hv5 ?_
  refine j_iload_n G d_M_tells_27 rfl ?_
  obtain ⟨v6, hv6, hm⟩ := Option.bind_eq_some_iff.mp hm
  refine j_zald G d_M_tells_28 hv6 ?_
  refine j_if_eq (tgt := 54) G d_M_tells_29 rfl (fun hc => ?_) (fun hc => ?_)
  · rw [if_pos hc] at hm
    refine j_iconst (v := 0) G d_M_tells_54 (by decide) ?_
    obtain rfl := Option.some.inj hm
    exact j_zret G E d_M_tells_55 ⟨by decide, by decide⟩ (by decide) ⟨rfl, rfl⟩
  · rw [if_neg hc] at hm
    refine j_aload_n G d_M_tells_32 rfl ?_
    obtain ⟨v7, hv7, hm⟩ := Option.bind_eq_some_iff.mp hm
    refine j_gR G d_M_tells_33 fl_M_29 hv7 ?_
    refine j_iload_n G d_M_tells_36 rfl ?_
    refine j_iconst (v := 4) G d_M_tells_37 (by decide) ?_
    obtain ⟨v8, hv8, hm⟩ := Option.bind_eq_some_iff.mp hm
    refine j_callS (As := [aRf v7, aI ((((120 : Int32) * p1) + v4) - (4 : Int32)), aI (4 : Int32)]) G d_M_tells_38 (c_M_numberIn _ G.off _ _ _ _ _ _ _ _ hv8) mw_M_numberIn ms_M_numberIn lk_M_169 rfl rfl (Nat.le_of_ble_eq_true rfl) ⟨by decide, by decide⟩ ⟨by decide, by decide⟩ (fun v9 w9 hp => ?_)
    obtain ⟨rfl, rfl⟩ := hp
    refine j_aload_n G d_M_tells_41 rfl ?_
    obtain ⟨v9, hv9, hm⟩ := Option.bind_eq_some_iff.mp hm
    refine j_gR G d_M_tells_42 fl_M_29 hv9 ?_
    refine j_iload_n G d_M_tells_45 rfl ?_
    refine j_iload_n G d_M_tells_46 rfl ?_
    obtain ⟨v10, hv10, hm⟩ := Option.bind_eq_some_iff.mp hm
    refine j_callS (As := [aRf v9, aI ((120 : Int32) * p1), aI ((((120 : Int32) * p1) + v4) - (4 : Int32))]) G d_M_tells_47 (c_M_sumOf _ G.off _ _ _ _ _ _ _ _ hv10) mw_M_sumOf ms_M_sumOf lk_M_128 rfl rfl (Nat.le_of_ble_eq_true rfl) ⟨by decide, by decide⟩ ⟨by decide, by decide⟩ (fun v9 w9 hp => ?_)
    obtain ⟨rfl, rfl⟩ := hp
    refine j_lcmp G d_M_tells_50 ?_
    refine j_if_eq (tgt := 56) G d_M_tells_51 rfl (fun hc => ?_) (fun hc => ?_)
    · rw [if_pos hc] at hm
      refine j_iconst (v := 0) G d_M_tells_56 (by decide) ?_
      refine j_istore G d_M_tells_57 (by decide) ?_
      refine j_iload_n G d_M_tells_59 rfl ?_
      refine j_istore G d_M_tells_60 (by decide) ?_
      obtain ⟨e11, he11, ho11⟩ := Option.bind_eq_some_iff.mp hm
      clear hm
      refine j_lv [(0, aRf o), (1, aI p1), (3, aI ((((120 : Int32) * p1) + v4) - (4 : Int32))), (4, aI (0 : Int32)), (5, aI ((120 : Int32) * p1))] rfl ?_
      refine aw_wh_elim (fun (s : Int32 × Int32 × aw_W) => aj_J Γ 8 (0, 0) 62 [(0, aRf o), (1, aI p1), (3, aI ((((120 : Int32) * p1) + v4) - (4 : Int32))), (4, aI s.1), (5, aI s.2.1)] [] s.2.2) ?_ he11
      intro s11 x11 hm hin11 hout11
      try dsimp only at hm ⊢
      refine j_iload G d_M_tells_62 rfl ?_
      refine j_iconst (v := 5) G d_M_tells_64 (by decide) ?_
      refine j_iadd G d_M_tells_65 ?_
      refine j_iload_n G d_M_tells_66 rfl ?_
      refine j_icmp_ge (tgt := 190) G d_M_tells_67 rfl (fun hc => ?_) (fun hc => ?_)
      · rw [if_pos hc] at hm
        have q11 := hout11 _ (Option.some.inj hm).symm
        clear hin11 hout11
        subst q11
        clear hm
        have hm := ho11
        clear ho11
        try dsimp only at hm
        refine j_iload G d_M_tells_190 rfl ?_
        refine j_iload_n G d_M_tells_192 rfl ?_
        obtain ⟨j12, hj12, ho12⟩ := Option.bind_eq_some_iff.mp hm
        clear hm
        have hJ12 : aj_J Γ 8 (0, 0) 212 [] [aI j12] s11.2.2 := by
          clear hj12
          have hm := ho12
          clear ho12
          obtain ⟨v13, hv13, hm⟩ := Option.bind_eq_some_iff.mp hm
          obtain rfl := Option.some.inj hm
          exact j_zret G E d_M_tells_212 ⟨by decide, by decide⟩ (aw_zz_some hv13) ⟨rfl, rfl⟩
        clear ho12
        have hm := hj12
        clear hj12
        refine j_icmp_ne (tgt := 211) G d_M_tells_193 rfl (fun hc => ?_) (fun hc => ?_)
        · rw [if_neg hc] at hm
          refine j_iconst (v := 0) G d_M_tells_211 (by decide) ?_
          obtain rfl := Option.some.inj hm
          refine j_lv [] rfl ?_
          exact hJ12
        · rw [if_pos hc] at hm
          refine j_iload G d_M_tells_196 rfl ?_
          refine j_aload_n G d_M_tells_198 rfl ?_
          obtain ⟨v14, hv14, hm⟩ := Option.bind_eq_some_iff.mp hm
          refine j_gR G d_M_tells_199 fl_M_13 hv14 ?_
          refine j_iload_n G d_M_tells_202 rfl ?_
          obtain ⟨v15, hv15, hm⟩ := Option.bind_eq_some_iff.mp hm
          refine j_iald G d_M_tells_203 hv15 ?_
          refine j_icmp_ne (tgt := 211) G d_M_tells_204 rfl (fun hc => ?_) (fun hc => ?_)
          · rw [if_neg hc] at hm
            refine j_iconst (v := 0) G d_M_tells_211 (by decide) ?_
            obtain rfl := Option.some.inj hm
            refine j_lv [] rfl ?_
            exact hJ12
          · rw [if_pos hc] at hm
            refine j_iconst (v := 1) G d_M_tells_207 (by decide) ?_
            refine j_goto (tgt := 212) G d_M_tells_208 rfl ?_
            obtain rfl := Option.some.inj hm
            refine j_lv [] rfl ?_
            exact hJ12
      · rw [if_neg hc] at hm
        refine j_aload_n G d_M_tells_70 rfl ?_
        obtain ⟨v16, hv16, hm⟩ := Option.bind_eq_some_iff.mp hm
        refine j_gR G d_M_tells_71 fl_M_29 hv16 ?_
        refine j_iload G d_M_tells_74 rfl ?_
        refine j_iconst (v := 2) G d_M_tells_76 (by decide) ?_
        refine j_iadd G d_M_tells_77 ?_
        obtain ⟨v17, hv17, hm⟩ := Option.bind_eq_some_iff.mp hm
        refine j_iald G d_M_tells_78 hv17 ?_
        refine j_istore G d_M_tells_79 (by decide) ?_
        refine j_aload_n G d_M_tells_81 rfl ?_
        obtain ⟨v18, hv18, hm⟩ := Option.bind_eq_some_iff.mp hm
        refine j_gR G d_M_tells_82 fl_M_29 hv18 ?_
        refine j_iload G d_M_tells_85 rfl ?_
        refine j_iconst (v := 3) G d_M_tells_87 (by decide) ?_
        refine j_iadd G d_M_tells_88 ?_
        obtain ⟨v19, hv19, hm⟩ := Option.bind_eq_some_iff.mp hm
        refine j_iald G d_M_tells_89 hv19 ?_
        refine j_istore G d_M_tells_90 (by decide) ?_
        refine j_iload G d_M_tells_92 rfl ?_
        refine j_iconst (v := 1) G d_M_tells_94 (by decide) ?_
        refine j_iconst (v := 4) G d_M_tells_95 (by decide) ?_
        obtain ⟨v20, hv20, hm⟩ := Option.bind_eq_some_iff.mp hm
        refine j_callS (As := [aI v17, aI (1 : Int32), aI (4 : Int32)]) G d_M_tells_96 (c_M_in _ G.off _ _ _ _ _ _ _ _ hv20) mw_M_in ms_M_in lk_M_133 rfl rfl (Nat.le_of_ble_eq_true rfl) ⟨by decide, by decide⟩ ⟨by decide, by decide⟩ (fun v9 w9 hp => ?_)
        obtain ⟨rfl, rfl⟩ := hp
        refine j_if_eq (tgt := 153) G d_M_tells_99 rfl (fun hc => ?_) (fun hc => ?_)
        · rw [if_pos hc] at hm
          refine j_iconst (v := 0) G d_M_tells_153 (by decide) ?_
          have q11 := hout11 _ (Option.some.inj hm).symm
          clear hin11 hout11
          subst q11
          clear hm
          have hm := ho11
          clear ho11
          try dsimp only at hm
          obtain rfl := Option.some.inj hm
          exact j_zret G E d_M_tells_154 ⟨by decide, by decide⟩ (by decide) ⟨rfl, rfl⟩
        · rw [if_neg hc] at hm
          refine j_iload G d_M_tells_102 rfl ?_
          refine j_bipush (v := 8) G d_M_tells_104 (by decide) ?_
          refine j_icmp_gt (tgt := 153) G d_M_tells_106 rfl (fun hc => ?_) (fun hc => ?_)
          · rw [if_pos hc] at hm
            refine j_iconst (v := 0) G d_M_tells_153 (by decide) ?_
            have q11 := hout11 _ (Option.some.inj hm).symm
            clear hin11 hout11
            subst q11
            clear hm
            have hm := ho11
            clear ho11
            try dsimp only at hm
            obtain rfl := Option.some.inj hm
            exact j_zret G E d_M_tells_154 ⟨by decide, by decide⟩ (by decide) ⟨rfl, rfl⟩
          · rw [if_neg hc] at hm
            refine j_aload_n G d_M_tells_109 rfl ?_
            obtain ⟨v21, hv21, hm⟩ := Option.bind_eq_some_iff.mp hm
            refine j_gR G d_M_tells_110 fl_M_29 hv21 ?_
            refine j_iload G d_M_tells_113 rfl ?_
            refine j_iconst (v := 4) G d_M_tells_115 (by decide) ?_
            refine j_iadd G d_M_tells_116 ?_
            obtain ⟨v22, hv22, hm⟩ := Option.bind_eq_some_iff.mp hm
            refine j_iald G d_M_tells_117 hv22 ?_
            refine j_iload G d_M_tells_118 rfl ?_
            refine j_icmp_ne (tgt := 153) G d_M_tells_120 rfl (fun hc => ?_) (fun hc => ?_)
            · rw [if_neg hc] at hm
              refine j_iconst (v := 0) G d_M_tells_153 (by decide) ?_
              have q11 := hout11 _ (Option.some.inj hm).symm
              clear hin11 hout11
              subst q11
              clear hm
              have hm := ho11
              clear ho11
              try dsimp only at hm
              obtain rfl := Option.some.inj hm
              exact j_zret G E d_M_tells_154 ⟨by decide, by decide⟩ (by decide) ⟨rfl, rfl⟩
            · rw [if_pos hc] at hm
              refine j_iload G d_M_tells_123 rfl ?_
              refine j_iconst (v := 5) G d_M_tells_125 (by decide) ?_
              refine j_iadd G d_M_tells_126 ?_
              refine j_iload G d_M_tells_127 rfl ?_
              refine j_iadd G d_M_tells_129 ?_
              refine j_iload_n G d_M_tells_130 rfl ?_
              refine j_icmp_gt (tgt := 153) G d_M_tells_131 rfl (fun hc => ?_) (fun hc => ?_)
              · rw [if_pos hc] at hm
                refine j_iconst (v := 0) G d_M_tells_153 (by decide) ?_
                have q11 := hout11 _ (Option.some.inj hm).symm
                clear hin11 hout11
                subst q11
                clear hm
                have hm := ho11
                clear ho11
                try dsimp only at hm
                obtain rfl := Option.some.inj hm
                exact j_zret G E d_M_tells_154 ⟨by decide, by decide⟩ (by decide) ⟨rfl, rfl⟩
              · rw [if_neg hc] at hm
                refine j_iload G d_M_tells_134 rfl ?_
                refine j_iload G d_M_tells_136 rfl ?_
                refine j_iload G d_M_tells_138 rfl ?_
                obtain ⟨v23, hv23, hm⟩ := Option.bind_eq_some_iff.mp hm
                refine j_callS (As := [aI v17, aI v19]) G d_M_tells_140 (c_M_lengthOf _ G.off _ _ _ _ _ _ _ hv23) mw_M_lengthOf ms_M_lengthOf lk_M_81 rfl rfl (Nat.le_of_ble_eq_true rfl) ⟨by decide, by decide⟩ ⟨by decide, by decide⟩ (fun v9 w9 hp => ?_)
                obtain ⟨rfl, rfl⟩ := hp
                refine j_iadd G d_M_tells_143 ?_
                refine j_aload_n G d_M_tells_144 rfl ?_
                obtain ⟨v24, hv24, hm⟩ := Option.bind_eq_some_iff.mp hm
                refine j_gR G d_M_tells_145 fl_M_13 hv24 ?_
                refine j_iload_n G d_M_tells_148 rfl ?_
                obtain ⟨v25, hv25, hm⟩ := Option.bind_eq_some_iff.mp hm
                refine j_iald G d_M_tells_149 hv25 ?_
                refine j_icmp_le (tgt := 155) G d_M_tells_150 rfl (fun hc => ?_) (fun hc => ?_)
                · rw [if_pos hc] at hm
                  refine j_aload_n G d_M_tells_155 rfl ?_
                  refine j_iload_n G d_M_tells_156 rfl ?_
                  refine j_iload G d_M_tells_157 rfl ?_
                  refine j_iload G d_M_tells_159 rfl ?_
                  refine j_iload G d_M_tells_161 rfl ?_
                  obtain ⟨v26, hv26, hm⟩ := Option.bind_eq_some_iff.mp hm
                  obtain ⟨v27, hv27, hm⟩ := Option.bind_eq_some_iff.mp hm
                  refine j_callV (As := [aI p1, aI s11.1, aI v17, aI v19]) G d_M_tells_163 (c_M_note _ G.off _ _ _ _ _ _ _ _ _ _ hv27) mw_M_note mi_M_note lk_M_117 rfl hv26 rfl rfl (Nat.le_of_ble_eq_true rfl) ⟨by decide, by decide⟩ ⟨by decide, by decide⟩ (fun v9 w9 hp => ?_)
                  obtain ⟨rfl, rfl⟩ := hp
                  refine j_iload G d_M_tells_166 rfl ?_
                  refine j_iload G d_M_tells_168 rfl ?_
                  refine j_iload G d_M_tells_170 rfl ?_
                  obtain ⟨v28, hv28, hm⟩ := Option.bind_eq_some_iff.mp hm
                  refine j_callS (As := [aI v17, aI v19]) G d_M_tells_172 (c_M_lengthOf _ G.off _ _ _ _ _ _ _ hv28) mw_M_lengthOf ms_M_lengthOf lk_M_81 rfl rfl (Nat.le_of_ble_eq_true rfl) ⟨by decide, by decide⟩ ⟨by decide, by decide⟩ (fun v9 w9 hp => ?_)
                  obtain ⟨rfl, rfl⟩ := hp
                  refine j_iadd G d_M_tells_175 ?_
                  refine j_istore G d_M_tells_176 (by decide) ?_
                  refine j_iload G d_M_tells_178 rfl ?_
                  refine j_iconst (v := 5) G d_M_tells_180 (by decide) ?_
                  refine j_iadd G d_M_tells_181 ?_
                  refine j_iload G d_M_tells_182 rfl ?_
                  refine j_iadd G d_M_tells_184 ?_
                  refine j_istore G d_M_tells_185 (by decide) ?_
                  refine j_goto (tgt := 62) G d_M_tells_187 rfl ?_
                  refine j_lv [(0, aRf o), (1, aI p1), (3, aI ((((120 : Int32) * p1) + v4) - (4 : Int32))), (4, aI (s11.1 + v28)), (5, aI ((s11.2.1 + (5 : Int32)) + v17))] rfl ?_
                  have z9 := hin11 _ (Option.some.inj hm).symm
                  exact z9
                · rw [if_neg hc] at hm
                  refine j_iconst (v := 0) G d_M_tells_153 (by decide) ?_
                  have q11 := hout11 _ (Option.some.inj hm).symm
                  clear hin11 hout11
                  subst q11
                  clear hm
                  have hm := ho11
                  clear ho11
                  try dsimp only at hm
                  obtain rfl := Option.some.inj hm
                  exact j_zret G E d_M_tells_154 ⟨by decide, by decide⟩ (by decide) ⟨rfl, rfl⟩
    · rw [if_neg hc] at hm
      refine j_iconst (v := 0) G d_M_tells_54 (by decide) ?_
      obtain rfl := Option.some.inj hm
      exact j_zret G E d_M_tells_55 ⟨by decide, by decide⟩ (by decide) ⟨rfl, rfl⟩
noncomputable def f_M_isRecord (w : aw_W) (o : Option Nat) (p1 : Int32) (p2 : Int32) : Option (Int32) :=
  (aw_gR w o 7 3).bind fun v1 =>
  (aw_aI w v1 1 p1).bind fun v2 =>
  if (p2 + (8 : Int32)) ≤ v2 then
    (aw_gR w o 7 5).bind fun v3 =>
    (aw_aI w v3 1 ((((100 : Int32) * p1) + p2) + (6 : Int32))).bind fun v4 =>
    (aw_gR w o 7 5).bind fun v5 =>
    (aw_aI w v5 1 ((((100 : Int32) * p1) + p2) + (7 : Int32))).bind fun v6 =>
    (f_M_in w v4 (1 : Int32) (4 : Int32)).bind fun v7 =>
    if v7 = 0 then
      some (0 : Int32)
    else
      if v6 ≤ (8 : Int32) then
        (f_M_lengthOf w v4 v6).bind fun v8 =>
        (aw_gR w o 7 3).bind fun v9 =>
        (aw_aI w v9 1 p1).bind fun v10 =>
        (if v10 < (p2 + v8) then
            some (0 : Int32)
          else
            (aw_gR w o 7 5).bind fun v11 =>
            (f_M_numberIn w v11 (((100 : Int32) * p1) + p2) (4 : Int32)).bind fun v12 =>
            (aw_gR w o 7 5).bind fun v13 =>
            (f_M_sumOf w v13 ((((100 : Int32) * p1) + p2) + (4 : Int32)) ((((100 : Int32) * p1) + p2) + v8)).bind fun v14 =>
            if (lg_cmp v12 v14) = 0 then
              some (1 : Int32)
            else
              some (0 : Int32) : Option (Int32)).bind fun j15 =>
        (aw_zz j15).bind fun v16 =>
        some j15
      else
        if v6 = (255 : Int32) then
          (f_M_lengthOf w v4 v6).bind fun v17 =>
          (aw_gR w o 7 3).bind fun v18 =>
          (aw_aI w v18 1 p1).bind fun v19 =>
          (if v19 < (p2 + v17) then
              some (0 : Int32)
            else
              (aw_gR w o 7 5).bind fun v20 =>
              (f_M_numberIn w v20 (((100 : Int32) * p1) + p2) (4 : Int32)).bind fun v21 =>
              (aw_gR w o 7 5).bind fun v22 =>
              (f_M_sumOf w v22 ((((100 : Int32) * p1) + p2) + (4 : Int32)) ((((100 : Int32) * p1) + p2) + v17)).bind fun v23 =>
              if (lg_cmp v21 v23) = 0 then
                some (1 : Int32)
              else
                some (0 : Int32) : Option (Int32)).bind fun j24 =>
          (aw_zz j24).bind fun v25 =>
          some j24
        else
          some (0 : Int32)
  else
    some (0 : Int32)
abbrev rm_M_isRecord : Room := { frames := 2, cells := 0, slots := 0, locals := 50 }
set_option maxRecDepth 100000 in
set_option maxHeartbeats 4000000 in
theorem c_M_isRecord (l : Launch) (hl : l.stackTraces = false) (D : va_G) (dA : Nat → ClassId) (base : Nat) (w : aw_W) (o : Option Nat) (p1 : Int32) (p2 : Int32) (r : Int32) (hm : f_M_isRecord w o p1 p2 = some r) : aj_Ct l D dA base m_M_isRecord rm_M_isRecord [aRf o, aI p1, aI p2] w (fun v w' => some (aI r) = v ∧ w = w') := by
  refine aj_enter hl (by decide) (Nat.le_of_ble_eq_true rfl) ?_
  intro Γ G E
  unfold f_M_isRecord at hm
  refine j_iload_n G d_M_isRecord_0 rfl ?_
  refine j_bipush (v := 8) G d_M_isRecord_1 (by decide) ?_
  refine j_iadd G d_M_isRecord_3 ?_
  refine j_aload_n G d_M_isRecord_4 rfl ?_
  obtain ⟨v1, hv1, hm⟩ := Option.bind_eq_some_iff.mp hm
  refine j_gR G d_M_isRecord_5 fl_M_13 hv1 ?_
  refine j_iload_n G d_M_isRecord_8 rfl ?_
  obtain ⟨v2, hv2, hm⟩ := Option.bind_eq_some_iff.mp hm
  refine j_iald G d_M_isRecord_9 hv2 ?_
  refine j_icmp_le (tgt := 15) G d_M_isRecord_10 rfl (fun hc => ?_) (fun hc => ?_)
  · rw [if_pos hc] at hm
    refine j_bipush (v := 100) G d_M_isRecord_15 (by decide) ?_
    refine j_iload_n G d_M_isRecord_17 rfl ?_
    refine j_imul G d_M_isRecord_18 ?_
    refine j_iload_n G d_M_isRecord_19 rfl ?_
    refine j_iadd G d_M_isRecord_20 ?_
    refine j_istore_n G d_M_isRecord_21 (by decide) ?_
    refine j_aload_n G d_M_isRecord_22 rfl ?_
    obtain ⟨v3, hv3, hm⟩ := Option.bind_eq_some_iff.mp hm
    refine j_gR G d_M_isRecord_23 fl_M_19 hv3 ?_
    refine j_iload_n G d_M_isRecord_26 rfl ?_
    refine j_bipush (v := 6) G d_M_isRecord_27 (by decide) ?_
    refine j_iadd G d_M_isRecord_29 ?_
    obtain ⟨v4, hv4, hm⟩ := Option.bind_eq_some_iff.mp hm
    refine j_iald G d_M_isRecord_30 hv4 ?_
    refine j_istore G d_M_isRecord_31 (by decide) ?_
    refine j_aload_n G d_M_isRecord_33 rfl ?_
    obtain ⟨v5, hv5, hm⟩ := Option.bind_eq_some_iff.mp hm
    refine j_gR G d_M_isRecord_34 fl_M_19 hv5 ?_
    refine j_iload_n G d_M_isRecord_37 rfl ?_
    refine j_bipush (v := 7) G d_M_isRecord_38 (by decide) ?_
    refine j_iadd G d_M_isRecord_40 ?_
    obtain ⟨v6, hv6, hm⟩ := Option.bind_eq_some_iff.mp hm
    refine j_iald G d_M_isRecord_41 hv6 ?_
    refine j_istore G d_M_isRecord_42 (by decide) ?_
    refine j_iload G d_M_isRecord_44 rfl ?_
    refine j_iconst (v := 1) G d_M_isRecord_46 (by decide) ?_
    refine j_iconst (v := 4) G d_M_isRecord_47 (by decide) ?_
    obtain ⟨v7, hv7, hm⟩ := Option.bind_eq_some_iff.mp hm
    refine j_callS (As := [aI v4, aI (1 : Int32), aI (4 : Int32)]) G d_M_isRecord_48 (c_M_in _ G.off _ _ _ _ _ _ _ _ hv7) mw_M_in ms_M_in lk_M_133 rfl rfl (Nat.le_of_ble_eq_true rfl) ⟨by decide, by decide⟩ ⟨by decide, by decide⟩ (fun v9 w9 hp => ?_)
    obtain ⟨rfl, rfl⟩ := hp
    refine j_if_eq (tgt := 69) G d_M_isRecord_51 rfl (fun hc => ?_) (fun hc => ?_)
    · rw [if_pos hc] at hm
      refine j_iconst (v := 0) G d_M_isRecord_69 (by decide) ?_
      obtain rfl := Option.some.inj hm
      exact j_zret G E d_M_isRecord_70 ⟨by decide, by decide⟩ (by decide) ⟨rfl, rfl⟩
    · rw [if_neg hc] at hm
      refine j_iload G d_M_isRecord_54 rfl ?_
      refine j_bipush (v := 8) G d_M_isRecord_56 (by decide) ?_
      refine j_icmp_le (tgt := 71) G d_M_isRecord_58 rfl (fun hc => ?_) (fun hc => ?_)
      · rw [if_pos hc] at hm
        refine j_iload G d_M_isRecord_71 rfl ?_
        refine j_iload G d_M_isRecord_73 rfl ?_
        obtain ⟨v8, hv8, hm⟩ := Option.bind_eq_some_iff.mp hm
        refine j_callS (As := [aI v4, aI v6]) G d_M_isRecord_75 (c_M_lengthOf _ G.off _ _ _ _ _ _ _ hv8) mw_M_lengthOf ms_M_lengthOf lk_M_81 rfl rfl (Nat.le_of_ble_eq_true rfl) ⟨by decide, by decide⟩ ⟨by decide, by decide⟩ (fun v9 w9 hp => ?_)
        obtain ⟨rfl, rfl⟩ := hp
        refine j_istore G d_M_isRecord_78 (by decide) ?_
        refine j_iload_n G d_M_isRecord_80 rfl ?_
        refine j_iload G d_M_isRecord_81 rfl ?_
        refine j_iadd G d_M_isRecord_83 ?_
        refine j_aload_n G d_M_isRecord_84 rfl ?_
        obtain ⟨v9, hv9, hm⟩ := Option.bind_eq_some_iff.mp hm
        refine j_gR G d_M_isRecord_85 fl_M_13 hv9 ?_
        refine j_iload_n G d_M_isRecord_88 rfl ?_
        obtain ⟨v10, hv10, hm⟩ := Option.bind_eq_some_iff.mp hm
        refine j_iald G d_M_isRecord_89 hv10 ?_
        obtain ⟨j11, hj11, ho11⟩ := Option.bind_eq_some_iff.mp hm
        clear hm
        have hJ11 : aj_J Γ 7 (0, 0) 125 [] [aI j11] w := by
          clear hj11
          have hm := ho11
          clear ho11
          obtain ⟨v12, hv12, hm⟩ := Option.bind_eq_some_iff.mp hm
          obtain rfl := Option.some.inj hm
          exact j_zret G E d_M_isRecord_125 ⟨by decide, by decide⟩ (aw_zz_some hv12) ⟨rfl, rfl⟩
        clear ho11
        have hm := hj11
        clear hj11
        refine j_icmp_gt (tgt := 124) G d_M_isRecord_90 rfl (fun hc => ?_) (fun hc => ?_)
        · rw [if_pos hc] at hm
          refine j_iconst (v := 0) G d_M_isRecord_124 (by decide) ?_
          obtain rfl := Option.some.inj hm
          refine j_lv [] rfl ?_
          exact hJ11
        · rw [if_neg hc] at hm
          refine j_aload_n G d_M_isRecord_93 rfl ?_
          obtain ⟨v13, hv13, hm⟩ := Option.bind_eq_some_iff.mp hm
          refine j_gR G d_M_isRecord_94 fl_M_19 hv13 ?_
          refine j_iload_n G d_M_isRecord_97 rfl ?_
          refine j_iconst (v := 4) G d_M_isRecord_98 (by decide) ?_
          obtain ⟨v14, hv14, hm⟩ := Option.bind_eq_some_iff.mp hm
          refine j_callS (As := [aRf v13, aI (((100 : Int32) * p1) + p2), aI (4 : Int32)]) G d_M_isRecord_99 (c_M_numberIn _ G.off _ _ _ _ _ _ _ _ hv14) mw_M_numberIn ms_M_numberIn lk_M_169 rfl rfl (Nat.le_of_ble_eq_true rfl) ⟨by decide, by decide⟩ ⟨by decide, by decide⟩ (fun v9 w9 hp => ?_)
          obtain ⟨rfl, rfl⟩ := hp
          refine j_aload_n G d_M_isRecord_102 rfl ?_
          obtain ⟨v15, hv15, hm⟩ := Option.bind_eq_some_iff.mp hm
          refine j_gR G d_M_isRecord_103 fl_M_19 hv15 ?_
          refine j_iload_n G d_M_isRecord_106 rfl ?_
          refine j_iconst (v := 4) G d_M_isRecord_107 (by decide) ?_
          refine j_iadd G d_M_isRecord_108 ?_
          refine j_iload_n G d_M_isRecord_109 rfl ?_
          refine j_iload G d_M_isRecord_110 rfl ?_
          refine j_iadd G d_M_isRecord_112 ?_
          obtain ⟨v16, hv16, hm⟩ := Option.bind_eq_some_iff.mp hm
          refine j_callS (As := [aRf v15, aI ((((100 : Int32) * p1) + p2) + (4 : Int32)), aI ((((100 : Int32) * p1) + p2) + v8)]) G d_M_isRecord_113 (c_M_sumOf _ G.off _ _ _ _ _ _ _ _ hv16) mw_M_sumOf ms_M_sumOf lk_M_128 rfl rfl (Nat.le_of_ble_eq_true rfl) ⟨by decide, by decide⟩ ⟨by decide, by decide⟩ (fun v9 w9 hp => ?_)
          obtain ⟨rfl, rfl⟩ := hp
          refine j_lcmp G d_M_isRecord_116 ?_
          refine j_if_ne (tgt := 124) G d_M_isRecord_117 rfl (fun hc => ?_) (fun hc => ?_)
          · rw [if_neg hc] at hm
            refine j_iconst (v := 0) G d_M_isRecord_124 (by decide) ?_
            obtain rfl := Option.some.inj hm
            refine j_lv [] rfl ?_
            exact hJ11
          · rw [if_pos hc] at hm
            refine j_iconst (v := 1) G d_M_isRecord_120 (by decide) ?_
            refine j_goto (tgt := 125) G d_M_isRecord_121 rfl ?_
            obtain rfl := Option.some.inj hm
            refine j_lv [] rfl ?_
            exact hJ11
      · rw [if_neg hc] at hm
        refine j_iload G d_M_isRecord_61 rfl ?_
        refine j_sipush (v := 255) G d_M_isRecord_63 (by decide) ?_
        refine j_icmp_eq (tgt := 71) G d_M_isRecord_66 rfl (fun hc => ?_) (fun hc => ?_)
        · rw [if_pos hc] at hm
          refine j_iload G d_M_isRecord_71 rfl ?_
          refine j_iload G d_M_isRecord_73 rfl ?_
          obtain ⟨v17, hv17, hm⟩ := Option.bind_eq_some_iff.mp hm
          refine j_callS (As := [aI v4, aI v6]) G d_M_isRecord_75 (c_M_lengthOf _ G.off _ _ _ _ _ _ _ hv17) mw_M_lengthOf ms_M_lengthOf lk_M_81 rfl rfl (Nat.le_of_ble_eq_true rfl) ⟨by decide, by decide⟩ ⟨by decide, by decide⟩ (fun v9 w9 hp => ?_)
          obtain ⟨rfl, rfl⟩ := hp
          refine j_istore G d_M_isRecord_78 (by decide) ?_
          refine j_iload_n G d_M_isRecord_80 rfl ?_
          refine j_iload G d_M_isRecord_81 rfl ?_
          refine j_iadd G d_M_isRecord_83 ?_
          refine j_aload_n G d_M_isRecord_84 rfl ?_
          obtain ⟨v18, hv18, hm⟩ := Option.bind_eq_some_iff.mp hm
          refine j_gR G d_M_isRecord_85 fl_M_13 hv18 ?_
          refine j_iload_n G d_M_isRecord_88 rfl ?_
          obtain ⟨v19, hv19, hm⟩ := Option.bind_eq_some_iff.mp hm
          refine j_iald G d_M_isRecord_89 hv19 ?_
          obtain ⟨j20, hj20, ho20⟩ := Option.bind_eq_some_iff.mp hm
          clear hm
          have hJ20 : aj_J Γ 7 (0, 0) 125 [] [aI j20] w := by
            clear hj20
            have hm := ho20
            clear ho20
            obtain ⟨v21, hv21, hm⟩ := Option.bind_eq_some_iff.mp hm
            obtain rfl := Option.some.inj hm
            exact j_zret G E d_M_isRecord_125 ⟨by decide, by decide⟩ (aw_zz_some hv21) ⟨rfl, rfl⟩
          clear ho20
          have hm := hj20
          clear hj20
          refine j_icmp_gt (tgt := 124) G d_M_isRecord_90 rfl (fun hc => ?_) (fun hc => ?_)
          · rw [if_pos hc] at hm
            refine j_iconst (v := 0) G d_M_isRecord_124 (by decide) ?_
            obtain rfl := Option.some.inj hm
            refine j_lv [] rfl ?_
            exact hJ20
          · rw [if_neg hc] at hm
            refine j_aload_n G d_M_isRecord_93 rfl ?_
            obtain ⟨v22, hv22, hm⟩ := Option.bind_eq_some_iff.mp hm
            refine j_gR G d_M_isRecord_94 fl_M_19 hv22 ?_
            refine j_iload_n G d_M_isRecord_97 rfl ?_
            refine j_iconst (v := 4) G d_M_isRecord_98 (by decide) ?_
            obtain ⟨v23, hv23, hm⟩ := Option.bind_eq_some_iff.mp hm
            refine j_callS (As := [aRf v22, aI (((100 : Int32) * p1) + p2), aI (4 : Int32)]) G d_M_isRecord_99 (c_M_numberIn _ G.off _ _ _ _ _ _ _ _ hv23) mw_M_numberIn ms_M_numberIn lk_M_169 rfl rfl (Nat.le_of_ble_eq_true rfl) ⟨by decide, by decide⟩ ⟨by decide, by decide⟩ (fun v9 w9 hp => ?_)
            obtain ⟨rfl, rfl⟩ := hp
            refine j_aload_n G d_M_isRecord_102 rfl ?_
            obtain ⟨v24, hv24, hm⟩ := Option.bind_eq_some_iff.mp hm
            refine j_gR G d_M_isRecord_103 fl_M_19 hv24 ?_
            refine j_iload_n G d_M_isRecord_106 rfl ?_
            refine j_iconst (v := 4) G d_M_isRecord_107 (by decide) ?_
            refine j_iadd G d_M_isRecord_108 ?_
            refine j_iload_n G d_M_isRecord_109 rfl ?_
            refine j_iload G d_M_isRecord_110 rfl ?_
            refine j_iadd G d_M_isRecord_112 ?_
            obtain ⟨v25, hv25, hm⟩ := Option.bind_eq_some_iff.mp hm
            refine j_callS (As := [aRf v24, aI ((((100 : Int32) * p1) + p2) + (4 : Int32)), aI ((((100 : Int32) * p1) + p2) + v17)]) G d_M_isRecord_113 (c_M_sumOf _ G.off _ _ _ _ _ _ _ _ hv25) mw_M_sumOf ms_M_sumOf lk_M_128 rfl rfl (Nat.le_of_ble_eq_true rfl) ⟨by decide, by decide⟩ ⟨by decide, by decide⟩ (fun v9 w9 hp => ?_)
            obtain ⟨rfl, rfl⟩ := hp
            refine j_lcmp G d_M_isRecord_116 ?_
            refine j_if_ne (tgt := 124) G d_M_isRecord_117 rfl (fun hc => ?_) (fun hc => ?_)
            · rw [if_neg hc] at hm
              refine j_iconst (v := 0) G d_M_isRecord_124 (by decide) ?_
              obtain rfl := Option.some.inj hm
              refine j_lv [] rfl ?_
              exact hJ20
            · rw [if_pos hc] at hm
              refine j_iconst (v := 1) G d_M_isRecord_120 (by decide) ?_
              refine j_goto (tgt := 125) G d_M_isRecord_121 rfl ?_
              obtain rfl := Option.some.inj hm
              refine j_lv [] rfl ?_
              exact hJ20
        · rw [if_neg hc] at hm
          refine j_iconst (v := 0) G d_M_isRecord_69 (by decide) ?_
          obtain rfl := Option.some.inj hm
          exact j_zret G E d_M_isRecord_70 ⟨by decide, by decide⟩ (by decide) ⟨rfl, rfl⟩
  · rw [if_neg hc] at hm
    refine j_iconst (v := 0) G d_M_isRecord_13 (by decide) ?_
    obtain rfl := Option.some.inj hm
    exact j_zret G E d_M_isRecord_14 ⟨by decide, by decide⟩ (by decide) ⟨rfl, rfl⟩
noncomputable def f_M_openRecords (w : aw_W) (o : Option Nat) (p1 : Int32) : Option (aw_W) :=
  (aw_gR w o 7 9).bind fun v1 =>
  (aw_sI w v1 1 p1 (0 : Int32)).bind fun v2 =>
  (aw_wh (σ := Int32 × aw_W) (τ := Int32 × aw_W) (fun s3 =>
    (aw_obj s3.2 o 7).bind fun v4 =>
    (f_M_isRecord s3.2 o p1 s3.1).bind fun v5 =>
    if v5 = 0 then
      some (.inr (s3.1, s3.2))
    else
      (aw_gR s3.2 o 7 5).bind fun v6 =>
      (aw_aI s3.2 v6 1 ((((100 : Int32) * p1) + s3.1) + (6 : Int32))).bind fun v7 =>
      (aw_gR s3.2 o 7 5).bind fun v8 =>
      (f_M_numberIn s3.2 v8 ((((100 : Int32) * p1) + s3.1) + (8 : Int32)) v7).bind fun v9 =>
      (aw_gR s3.2 o 7 5).bind fun v10 =>
      (aw_aI s3.2 v10 1 ((((100 : Int32) * p1) + s3.1) + (7 : Int32))).bind fun v11 =>
      (aw_obj s3.2 o 7).bind fun v12 =>
      (f_M_note s3.2 o p1 s3.1 v7 v11).bind fun v13 =>
      (aw_gR v13 o 7 5).bind fun v14 =>
      (aw_aI v13 v14 1 ((((100 : Int32) * p1) + s3.1) + (7 : Int32))).bind fun v15 =>
      (if v15 = (255 : Int32) then
          (aw_obj v13 o 7).bind fun v16 =>
          (f_M_unset v13 o v9 v7).bind fun v17 =>
          some v17
        else
          (aw_gR v13 o 7 2).bind fun v18 =>
          (aw_aI v13 v18 1 p1).bind fun v19 =>
          (aw_gR v13 o 7 9).bind fun v20 =>
          (aw_aI v13 v20 1 p1).bind fun v21 =>
          (aw_obj v13 o 7).bind fun v22 =>
          (f_M_set v13 o v9 v7 v19 (v21 - (1 : Int32))).bind fun v23 =>
          some v23 : Option (aw_W)).bind fun j24 =>
      (aw_gR j24 o 7 5).bind fun v25 =>
      (aw_aI j24 v25 1 ((((100 : Int32) * p1) + s3.1) + (7 : Int32))).bind fun v26 =>
      (f_M_lengthOf j24 v7 v26).bind fun v27 =>
      some (.inl (s3.1 + v27, j24))) ((0 : Int32), v2)).bind fun e28 =>
  (aw_gR e28.2 o 7 3).bind fun v29 =>
  (aw_sI e28.2 v29 1 p1 e28.1).bind fun v30 =>
  some v30
abbrev rm_M_openRecords : Room := { frames := 3, cells := 0, slots := 0, locals := 76 }
set_option maxRecDepth 100000 in
set_option maxHeartbeats 4000000 in
theorem c_M_openRecords (l : Launch) (hl : l.stackTraces = false) (D : va_G) (dA : Nat → ClassId) (base : Nat) (w : aw_W) (o : Option Nat) (p1 : Int32) (r : aw_W) (hm : f_M_openRecords w o p1 = some r) : aj_Ct l D dA base m_M_openRecords rm_M_openRecords [aRf o, aI p1] w (fun v w' => none = v ∧ r = w') := by
  refine aj_enter hl (by decide) (Nat.le_of_ble_eq_true rfl) ?_
  intro Γ G E
  unfold f_M_openRecords at hm
  refine j_aload_n G d_M_openRecords_0 rfl ?_
  obtain ⟨v1, hv1, hm⟩ := Option.bind_eq_some_iff.mp hm
  refine j_gR G d_M_openRecords_1 fl_M_32 hv1 ?_
  refine j_iload_n G d_M_openRecords_4 rfl ?_
  refine j_iconst (v := 0) G d_M_openRecords_5 (by decide) ?_
  obtain ⟨v2, hv2, hm⟩ := Option.bind_eq_some_iff.mp hm
  refine j_iast G d_M_openRecords_6 hv2 ?_
  refine j_iconst (v := 0) G d_M_openRecords_7 (by decide) ?_
  refine j_istore_n G d_M_openRecords_8 (by decide) ?_
  obtain ⟨e3, he3, ho3⟩ := Option.bind_eq_some_iff.mp hm
  clear hm
  refine j_lv [(0, aRf o), (1, aI p1), (2, aI (0 : Int32))] rfl ?_
  refine aw_wh_elim (fun (s : Int32 × aw_W) => aj_J Γ 7 (0, 0) 9 [(0, aRf o), (1, aI p1), (2, aI s.1)] [] s.2) ?_ he3
  intro s3 x3 hm hin3 hout3
  try dsimp only at hm ⊢
  refine j_aload_n G d_M_openRecords_9 rfl ?_
  refine j_iload_n G d_M_openRecords_10 rfl ?_
  refine j_iload_n G d_M_openRecords_11 rfl ?_
  obtain ⟨v4, hv4, hm⟩ := Option.bind_eq_some_iff.mp hm
  obtain ⟨v5, hv5, hm⟩ := Option.bind_eq_some_iff.mp hm
  refine j_callV (As := [aI p1, aI s3.1]) G d_M_openRecords_12 (c_M_isRecord _ G.off _ _ _ _ _ _ _ _ hv5) mw_M_isRecord mi_M_isRecord lk_M_178 rfl hv4 rfl rfl (Nat.le_of_ble_eq_true rfl) ⟨by decide, by decide⟩ ⟨by decide, by decide⟩ (fun v9 w9 hp => ?_)
  obtain ⟨rfl, rfl⟩ := hp
  refine j_if_eq (tgt := 136) G d_M_openRecords_15 rfl (fun hc => ?_) (fun hc => ?_)
  · rw [if_pos hc] at hm
    have q3 := hout3 _ (Option.some.inj hm).symm
    clear hin3 hout3
    subst q3
    clear hm
    have hm := ho3
    clear ho3
    try dsimp only at hm
    refine j_aload_n G d_M_openRecords_136 rfl ?_
    obtain ⟨v6, hv6, hm⟩ := Option.bind_eq_some_iff.mp hm
    refine j_gR G d_M_openRecords_137 fl_M_13 hv6 ?_
    refine j_iload_n G d_M_openRecords_140 rfl ?_
    refine j_iload_n G d_M_openRecords_141 rfl ?_
    obtain ⟨v7, hv7, hm⟩ := Option.bind_eq_some_iff.mp hm
    refine j_iast G d_M_openRecords_142 hv7 ?_
    obtain rfl := Option.some.inj hm
    exact j_vret G E d_M_openRecords_143 ⟨by decide, by decide⟩ ⟨rfl, rfl⟩
  · rw [if_neg hc] at hm
    refine j_bipush (v := 100) G d_M_openRecords_18 (by decide) ?_
    refine j_iload_n G d_M_openRecords_20 rfl ?_
    refine j_imul G d_M_openRecords_21 ?_
    refine j_iload_n G d_M_openRecords_22 rfl ?_
    refine j_iadd G d_M_openRecords_23 ?_
    refine j_istore_n G d_M_openRecords_24 (by decide) ?_
    refine j_aload_n G d_M_openRecords_25 rfl ?_
    obtain ⟨v8, hv8, hm⟩ := Option.bind_eq_some_iff.mp hm
    refine j_gR G d_M_openRecords_26 fl_M_19 hv8 ?_
    refine j_iload_n G d_M_openRecords_29 rfl ?_
    refine j_bipush (v := 6) G d_M_openRecords_30 (by decide) ?_
    refine j_iadd G d_M_openRecords_32 ?_
    obtain ⟨v9, hv9, hm⟩ := Option.bind_eq_some_iff.mp hm
    refine j_iald G d_M_openRecords_33 hv9 ?_
    refine j_istore G d_M_openRecords_34 (by decide) ?_
    refine j_aload_n G d_M_openRecords_36 rfl ?_
    obtain ⟨v10, hv10, hm⟩ := Option.bind_eq_some_iff.mp hm
    refine j_gR G d_M_openRecords_37 fl_M_19 hv10 ?_
    refine j_iload_n G d_M_openRecords_40 rfl ?_
    refine j_bipush (v := 8) G d_M_openRecords_41 (by decide) ?_
    refine j_iadd G d_M_openRecords_43 ?_
    refine j_iload G d_M_openRecords_44 rfl ?_
    obtain ⟨v11, hv11, hm⟩ := Option.bind_eq_some_iff.mp hm
    refine j_callS (As := [aRf v10, aI ((((100 : Int32) * p1) + s3.1) + (8 : Int32)), aI v9]) G d_M_openRecords_46 (c_M_numberIn _ G.off _ _ _ _ _ _ _ _ hv11) mw_M_numberIn ms_M_numberIn lk_M_169 rfl rfl (Nat.le_of_ble_eq_true rfl) ⟨by decide, by decide⟩ ⟨by decide, by decide⟩ (fun v9 w9 hp => ?_)
    obtain ⟨rfl, rfl⟩ := hp
    refine j_lstore G d_M_openRecords_49 (by decide) ?_
    refine j_aload_n G d_M_openRecords_51 rfl ?_
    refine j_iload_n G d_M_openRecords_52 rfl ?_
    refine j_iload_n G d_M_openRecords_53 rfl ?_
    refine j_iload G d_M_openRecords_54 rfl ?_
    refine j_aload_n G d_M_openRecords_56 rfl ?_
    obtain ⟨v12, hv12, hm⟩ := Option.bind_eq_some_iff.mp hm
    refine j_gR G d_M_openRecords_57 fl_M_19 hv12 ?_
    refine j_iload_n G d_M_openRecords_60 rfl ?_
    refine j_bipush (v := 7) G d_M_openRecords_61 (by decide) ?_
    refine j_iadd G d_M_openRecords_63 ?_
    obtain ⟨v13, hv13, hm⟩ := Option.bind_eq_some_iff.mp hm
    refine j_iald G d_M_openRecords_64 hv13 ?_
    obtain ⟨v14, hv14, hm⟩ := Option.bind_eq_some_iff.mp hm
    obtain ⟨v15, hv15, hm⟩ := Option.bind_eq_some_iff.mp hm
    refine j_callV (As := [aI p1, aI s3.1, aI v9, aI v13]) G d_M_openRecords_65 (c_M_note _ G.off _ _ _ _ _ _ _ _ _ _ hv15) mw_M_note mi_M_note lk_M_117 rfl hv14 rfl rfl (Nat.le_of_ble_eq_true rfl) ⟨by decide, by decide⟩ ⟨by decide, by decide⟩ (fun v9 w9 hp => ?_)
    obtain ⟨rfl, rfl⟩ := hp
    refine j_aload_n G d_M_openRecords_68 rfl ?_
    obtain ⟨v16, hv16, hm⟩ := Option.bind_eq_some_iff.mp hm
    refine j_gR G d_M_openRecords_69 fl_M_19 hv16 ?_
    refine j_iload_n G d_M_openRecords_72 rfl ?_
    refine j_bipush (v := 7) G d_M_openRecords_73 (by decide) ?_
    refine j_iadd G d_M_openRecords_75 ?_
    obtain ⟨v17, hv17, hm⟩ := Option.bind_eq_some_iff.mp hm
    refine j_iald G d_M_openRecords_76 hv17 ?_
    refine j_sipush (v := 255) G d_M_openRecords_77 (by decide) ?_
    obtain ⟨j18, hj18, ho18⟩ := Option.bind_eq_some_iff.mp hm
    clear hm
    have hJ18 : aj_J Γ 7 (0, 0) 116 [(0, aRf o), (1, aI p1), (2, aI s3.1), (3, aI (((100 : Int32) * p1) + s3.1)), (4, aI v9)] [] j18 := by
      clear hj18
      have hm := ho18
      clear ho18
      refine j_iload_n G d_M_openRecords_116 rfl ?_
      refine j_iload G d_M_openRecords_117 rfl ?_
      refine j_aload_n G d_M_openRecords_119 rfl ?_
      obtain ⟨v19, hv19, hm⟩ := Option.bind_eq_some_iff.mp hm
      refine j_gR G d_M_openRecords_120 fl_M_19 hv19 ?_
      refine j_iload_n G d_M_openRecords_123 rfl ?_
      refine j_bipush (v := 7) G d_M_openRecords_124 (by decide) ?_
      refine j_iadd G d_M_openRecords_126 ?_
      obtain ⟨v20, hv20, hm⟩ := Option.bind_eq_some_iff.mp hm
      refine j_iald G d_M_openRecords_127 hv20 ?_
      obtain ⟨v21, hv21, hm⟩ := Option.bind_eq_some_iff.mp hm
      refine j_callS (As := [aI v9, aI v20]) G d_M_openRecords_128 (c_M_lengthOf _ G.off _ _ _ _ _ _ _ hv21) mw_M_lengthOf ms_M_lengthOf lk_M_81 rfl rfl (Nat.le_of_ble_eq_true rfl) ⟨by decide, by decide⟩ ⟨by decide, by decide⟩ (fun v9 w9 hp => ?_)
      obtain ⟨rfl, rfl⟩ := hp
      refine j_iadd G d_M_openRecords_131 ?_
      refine j_istore_n G d_M_openRecords_132 (by decide) ?_
      refine j_goto (tgt := 9) G d_M_openRecords_133 rfl ?_
      refine j_lv [(0, aRf o), (1, aI p1), (2, aI (s3.1 + v21))] rfl ?_
      have z9 := hin3 _ (Option.some.inj hm).symm
      exact z9
    clear ho18
    have hm := hj18
    clear hj18
    refine j_icmp_ne (tgt := 94) G d_M_openRecords_80 rfl (fun hc => ?_) (fun hc => ?_)
    · rw [if_neg hc] at hm
      refine j_aload_n G d_M_openRecords_94 rfl ?_
      refine j_lload G d_M_openRecords_95 rfl ?_
      refine j_iload G d_M_openRecords_97 rfl ?_
      refine j_aload_n G d_M_openRecords_99 rfl ?_
      obtain ⟨v22, hv22, hm⟩ := Option.bind_eq_some_iff.mp hm
      refine j_gR G d_M_openRecords_100 fl_M_7 hv22 ?_
      refine j_iload_n G d_M_openRecords_103 rfl ?_
      obtain ⟨v23, hv23, hm⟩ := Option.bind_eq_some_iff.mp hm
      refine j_iald G d_M_openRecords_104 hv23 ?_
      refine j_aload_n G d_M_openRecords_105 rfl ?_
      obtain ⟨v24, hv24, hm⟩ := Option.bind_eq_some_iff.mp hm
      refine j_gR G d_M_openRecords_106 fl_M_32 hv24 ?_
      refine j_iload_n G d_M_openRecords_109 rfl ?_
      obtain ⟨v25, hv25, hm⟩ := Option.bind_eq_some_iff.mp hm
      refine j_iald G d_M_openRecords_110 hv25 ?_
      refine j_iconst (v := 1) G d_M_openRecords_111 (by decide) ?_
      refine j_isub G d_M_openRecords_112 ?_
      obtain ⟨v26, hv26, hm⟩ := Option.bind_eq_some_iff.mp hm
      obtain ⟨v27, hv27, hm⟩ := Option.bind_eq_some_iff.mp hm
      refine j_callV (As := [aL v11, aI v9, aI v23, aI (v25 - (1 : Int32))]) G d_M_openRecords_113 (c_M_set _ G.off _ _ _ _ _ _ _ _ _ _ hv27) mw_M_set mi_M_set lk_M_151 rfl hv26 rfl rfl (Nat.le_of_ble_eq_true rfl) ⟨by decide, by decide⟩ ⟨by decide, by decide⟩ (fun v9 w9 hp => ?_)
      obtain ⟨rfl, rfl⟩ := hp
      obtain rfl := Option.some.inj hm
      refine j_lv [(0, aRf o), (1, aI p1), (2, aI s3.1), (3, aI (((100 : Int32) * p1) + s3.1)), (4, aI v9)] rfl ?_
      exact hJ18
    · rw [if_pos hc] at hm
      refine j_aload_n G d_M_openRecords_83 rfl ?_
      refine j_lload G d_M_openRecords_84 rfl ?_
      refine j_iload G d_M_openRecords_86 rfl ?_
      obtain ⟨v28, hv28, hm⟩ := Option.bind_eq_some_iff.mp hm
      obtain ⟨v29, hv29, hm⟩ := Option.bind_eq_some_iff.mp hm
      refine j_callV (As := [aL v11, aI v9]) G d_M_openRecords_88 (c_M_unset _ G.off _ _ _ _ _ _ _ _ hv29) mw_M_unset mi_M_unset lk_M_155 rfl hv28 rfl rfl (Nat.le_of_ble_eq_true rfl) ⟨by decide, by decide⟩ ⟨by decide, by decide⟩ (fun v9 w9 hp => ?_)
      obtain ⟨rfl, rfl⟩ := hp
      refine j_goto (tgt := 116) G d_M_openRecords_91 rfl ?_
      obtain rfl := Option.some.inj hm
      refine j_lv [(0, aRf o), (1, aI p1), (2, aI s3.1), (3, aI (((100 : Int32) * p1) + s3.1)), (4, aI v9)] rfl ?_
      exact hJ18
noncomputable def f_M_openHint (w : aw_W) (o : Option Nat) (p1 : Int32) : Option (aw_W) :=
  (aw_wh (σ := Int32 × Int32 × aw_W) (τ := Int32 × Int32 × aw_W) (fun s1 =>
    (aw_gR s1.2.2 o 7 9).bind fun v2 =>
    (aw_aI s1.2.2 v2 1 p1).bind fun v3 =>
    if v3 ≤ s1.2.1 then
      some (.inr (s1.1, s1.2.1, s1.2.2))
    else
      (aw_gR s1.2.2 o 7 11).bind fun v4 =>
      (aw_aI s1.2.2 v4 1 (((12 : Int32) * p1) + s1.2.1)).bind fun v5 =>
      (aw_gR s1.2.2 o 7 8).bind fun v6 =>
      (f_M_numberIn s1.2.2 v6 (s1.1 + (5 : Int32)) v5).bind fun v7 =>
      (aw_gR s1.2.2 o 7 2).bind fun v8 =>
      (aw_aI s1.2.2 v8 1 p1).bind fun v9 =>
      (aw_obj s1.2.2 o 7).bind fun v10 =>
      (f_M_set s1.2.2 o v7 v5 v9 s1.2.1).bind fun v11 =>
      some (.inl ((s1.1 + (5 : Int32)) + v5, s1.2.1 + 1, v11))) ((120 : Int32) * p1, (0 : Int32), w)).bind fun e12 =>
  some e12.2.2
abbrev rm_M_openHint : Room := { frames := 2, cells := 0, slots := 0, locals := 50 }
set_option maxRecDepth 100000 in
set_option maxHeartbeats 4000000 in
theorem c_M_openHint (l : Launch) (hl : l.stackTraces = false) (D : va_G) (dA : Nat → ClassId) (base : Nat) (w : aw_W) (o : Option Nat) (p1 : Int32) (r : aw_W) (hm : f_M_openHint w o p1 = some r) : aj_Ct l D dA base m_M_openHint rm_M_openHint [aRf o, aI p1] w (fun v w' => none = v ∧ r = w') := by
  refine aj_enter hl (by decide) (Nat.le_of_ble_eq_true rfl) ?_
  intro Γ G E
  unfold f_M_openHint at hm
  refine j_bipush (v := 120) G d_M_openHint_0 (by decide) ?_
  refine j_iload_n G d_M_openHint_2 rfl ?_
  refine j_imul G d_M_openHint_3 ?_
  refine j_istore_n G d_M_openHint_4 (by decide) ?_
  refine j_iconst (v := 0) G d_M_openHint_5 (by decide) ?_
  refine j_istore_n G d_M_openHint_6 (by decide) ?_
  obtain ⟨e1, he1, ho1⟩ := Option.bind_eq_some_iff.mp hm
  clear hm
  refine j_lv [(0, aRf o), (1, aI p1), (2, aI ((120 : Int32) * p1)), (3, aI (0 : Int32))] rfl ?_
  refine aw_wh_elim (fun (s : Int32 × Int32 × aw_W) => aj_J Γ 5 (0, 0) 7 [(0, aRf o), (1, aI p1), (2, aI s.1), (3, aI s.2.1)] [] s.2.2) ?_ he1
  intro s1 x1 hm hin1 hout1
  try dsimp only at hm ⊢
  refine j_iload_n G d_M_openHint_7 rfl ?_
  refine j_aload_n G d_M_openHint_8 rfl ?_
  obtain ⟨v2, hv2, hm⟩ := Option.bind_eq_some_iff.mp hm
  refine j_gR G d_M_openHint_9 fl_M_32 hv2 ?_
  refine j_iload_n G d_M_openHint_12 rfl ?_
  obtain ⟨v3, hv3, hm⟩ := Option.bind_eq_some_iff.mp hm
  refine j_iald G d_M_openHint_13 hv3 ?_
  refine j_icmp_ge (tgt := 68) G d_M_openHint_14 rfl (fun hc => ?_) (fun hc => ?_)
  · rw [if_pos hc] at hm
    have q1 := hout1 _ (Option.some.inj hm).symm
    clear hin1 hout1
    subst q1
    clear hm
    have hm := ho1
    clear ho1
    try dsimp only at hm
    obtain rfl := Option.some.inj hm
    exact j_vret G E d_M_openHint_68 ⟨by decide, by decide⟩ ⟨rfl, rfl⟩
  · rw [if_neg hc] at hm
    refine j_aload_n G d_M_openHint_17 rfl ?_
    obtain ⟨v4, hv4, hm⟩ := Option.bind_eq_some_iff.mp hm
    refine j_gR G d_M_openHint_18 fl_M_38 hv4 ?_
    refine j_bipush (v := 12) G d_M_openHint_21 (by decide) ?_
    refine j_iload_n G d_M_openHint_23 rfl ?_
    refine j_imul G d_M_openHint_24 ?_
    refine j_iload_n G d_M_openHint_25 rfl ?_
    refine j_iadd G d_M_openHint_26 ?_
    obtain ⟨v5, hv5, hm⟩ := Option.bind_eq_some_iff.mp hm
    refine j_iald G d_M_openHint_27 hv5 ?_
    refine j_istore G d_M_openHint_28 (by decide) ?_
    refine j_aload_n G d_M_openHint_30 rfl ?_
    refine j_aload_n G d_M_openHint_31 rfl ?_
    obtain ⟨v6, hv6, hm⟩ := Option.bind_eq_some_iff.mp hm
    refine j_gR G d_M_openHint_32 fl_M_29 hv6 ?_
    refine j_iload_n G d_M_openHint_35 rfl ?_
    refine j_iconst (v := 5) G d_M_openHint_36 (by decide) ?_
    refine j_iadd G d_M_openHint_37 ?_
    refine j_iload G d_M_openHint_38 rfl ?_
    obtain ⟨v7, hv7, hm⟩ := Option.bind_eq_some_iff.mp hm
    refine j_callS (As := [aRf v6, aI (s1.1 + (5 : Int32)), aI v5]) G d_M_openHint_40 (c_M_numberIn _ G.off _ _ _ _ _ _ _ _ hv7) mw_M_numberIn ms_M_numberIn lk_M_169 rfl rfl (Nat.le_of_ble_eq_true rfl) ⟨by decide, by decide⟩ ⟨by decide, by decide⟩ (fun v9 w9 hp => ?_)
    obtain ⟨rfl, rfl⟩ := hp
    refine j_iload G d_M_openHint_43 rfl ?_
    refine j_aload_n G d_M_openHint_45 rfl ?_
    obtain ⟨v8, hv8, hm⟩ := Option.bind_eq_some_iff.mp hm
    refine j_gR G d_M_openHint_46 fl_M_7 hv8 ?_
    refine j_iload_n G d_M_openHint_49 rfl ?_
    obtain ⟨v9, hv9, hm⟩ := Option.bind_eq_some_iff.mp hm
    refine j_iald G d_M_openHint_50 hv9 ?_
    refine j_iload_n G d_M_openHint_51 rfl ?_
    obtain ⟨v10, hv10, hm⟩ := Option.bind_eq_some_iff.mp hm
    obtain ⟨v11, hv11, hm⟩ := Option.bind_eq_some_iff.mp hm
    refine j_callV (As := [aL v7, aI v5, aI v9, aI s1.2.1]) G d_M_openHint_52 (c_M_set _ G.off _ _ _ _ _ _ _ _ _ _ hv11) mw_M_set mi_M_set lk_M_151 rfl hv10 rfl rfl (Nat.le_of_ble_eq_true rfl) ⟨by decide, by decide⟩ ⟨by decide, by decide⟩ (fun v9 w9 hp => ?_)
    obtain ⟨rfl, rfl⟩ := hp
    refine j_iload_n G d_M_openHint_55 rfl ?_
    refine j_iconst (v := 5) G d_M_openHint_56 (by decide) ?_
    refine j_iadd G d_M_openHint_57 ?_
    refine j_iload G d_M_openHint_58 rfl ?_
    refine j_iadd G d_M_openHint_60 ?_
    refine j_istore_n G d_M_openHint_61 (by decide) ?_
    refine j_iinc (v := s1.2.1 + 1) G d_M_openHint_62 rfl (by first | rfl | decide) (by decide) ?_
    refine j_goto (tgt := 7) G d_M_openHint_65 rfl ?_
    refine j_lv [(0, aRf o), (1, aI p1), (2, aI ((s1.1 + (5 : Int32)) + v5)), (3, aI (s1.2.1 + 1))] rfl ?_
    have z9 := hin1 _ (Option.some.inj hm).symm
    exact z9
noncomputable def f_M_open (w : aw_W) (o : Option Nat) (p1 : Int32) : Option (Int32 × aw_W) :=
  (aw_pV w o 7 0 (.int (0 : Int32))).bind fun v1 =>
  (aw_pV v1 o 7 15 (.int (0 : Int32))).bind fun v2 =>
  (aw_wh (σ := Int32 × aw_W) (τ := Int32 × aw_W) (fun s3 =>
    (aw_gI s3.2 o 7 1).bind fun v4 =>
    if v4 ≤ s3.1 then
      some (.inr (s3.1, s3.2))
    else
      (if p1 = 0 then
          (aw_obj s3.2 o 7).bind fun v5 =>
          (f_M_openRecords s3.2 o s3.1).bind fun v6 =>
          some v6
        else
          (aw_obj s3.2 o 7).bind fun v7 =>
          (f_M_tells s3.2 o s3.1).bind fun v8 =>
          if v8.1 = 0 then
            (aw_obj v8.2 o 7).bind fun v9 =>
            (f_M_openRecords v8.2 o s3.1).bind fun v10 =>
            some v10
          else
            (aw_obj v8.2 o 7).bind fun v11 =>
            (f_M_openHint v8.2 o s3.1).bind fun v12 =>
            some v12 : Option (aw_W)).bind fun j13 =>
      (aw_gR j13 o 7 4).bind fun v14 =>
      (aw_gR j13 o 7 3).bind fun v15 =>
      (aw_aI j13 v15 1 s3.1).bind fun v16 =>
      (aw_sI j13 v14 1 s3.1 v16).bind fun v17 =>
      some (.inl (s3.1 + 1, v17))) ((0 : Int32), v2)).bind fun e18 =>
  (aw_pV e18.2 o 7 20 (.int (0 : Int32))).bind fun v19 =>
  (aw_pV v19 o 7 24 (.int (0 : Int32))).bind fun v20 =>
  (aw_pV v20 o 7 21 (.int (0 : Int32))).bind fun v21 =>
  (aw_gI v21 o 7 15).bind fun v22 =>
  some (v22, v21)
abbrev rm_M_open : Room := { frames := 4, cells := 0, slots := 0, locals := 102 }
set_option maxRecDepth 100000 in
set_option maxHeartbeats 4000000 in
theorem c_M_open (l : Launch) (hl : l.stackTraces = false) (D : va_G) (dA : Nat → ClassId) (base : Nat) (w : aw_W) (o : Option Nat) (p1 : Int32) (r : Int32 × aw_W) (hm : f_M_open w o p1 = some r) : aj_Ct l D dA base m_M_open rm_M_open [aRf o, aI p1] w (fun v w' => some (aI r.1) = v ∧ r.2 = w') := by
  refine aj_enter hl (by decide) (Nat.le_of_ble_eq_true rfl) ?_
  intro Γ G E
  unfold f_M_open at hm
  refine j_aload_n G d_M_open_0 rfl ?_
  refine j_iconst (v := 0) G d_M_open_1 (by decide) ?_
  obtain ⟨v1, hv1, hm⟩ := Option.bind_eq_some_iff.mp hm
  refine j_pV (ty := aY_M 0) G d_M_open_2 fl_M_63 ac_M (aw_T_of_M 0 (by decide) rfl) rfl rfl hv1 ?_
  refine j_aload_n G d_M_open_5 rfl ?_
  refine j_iconst (v := 0) G d_M_open_6 (by decide) ?_
  obtain ⟨v2, hv2, hm⟩ := Option.bind_eq_some_iff.mp hm
  refine j_pV (ty := aY_M 15) G d_M_open_7 fl_M_85 ac_M (aw_T_of_M 15 (by decide) rfl) rfl rfl hv2 ?_
  refine j_iconst (v := 0) G d_M_open_10 (by decide) ?_
  refine j_istore_n G d_M_open_11 (by decide) ?_
  obtain ⟨e3, he3, ho3⟩ := Option.bind_eq_some_iff.mp hm
  clear hm
  refine j_lv [(0, aRf o), (1, aI p1), (2, aI (0 : Int32))] rfl ?_
  refine aw_wh_elim (fun (s : Int32 × aw_W) => aj_J Γ 3 (0, 0) 12 [(0, aRf o), (1, aI p1), (2, aI s.1)] [] s.2) ?_ he3
  intro s3 x3 hm hin3 hout3
  try dsimp only at hm ⊢
  refine j_iload_n G d_M_open_12 rfl ?_
  refine j_aload_n G d_M_open_13 rfl ?_
  obtain ⟨v4, hv4, hm⟩ := Option.bind_eq_some_iff.mp hm
  refine j_gI G d_M_open_14 fl_M_99 hv4 ?_
  refine j_icmp_ge (tgt := 63) G d_M_open_17 rfl (fun hc => ?_) (fun hc => ?_)
  · rw [if_pos hc] at hm
    have q3 := hout3 _ (Option.some.inj hm).symm
    clear hin3 hout3
    subst q3
    clear hm
    have hm := ho3
    clear ho3
    try dsimp only at hm
    refine j_aload_n G d_M_open_63 rfl ?_
    refine j_iconst (v := 0) G d_M_open_64 (by decide) ?_
    obtain ⟨v5, hv5, hm⟩ := Option.bind_eq_some_iff.mp hm
    refine j_pV (ty := aY_M 20) G d_M_open_65 fl_M_102 ac_M (aw_T_of_M 20 (by decide) rfl) (by decide) (by decide) hv5 ?_
    refine j_aload_n G d_M_open_68 rfl ?_
    refine j_iconst (v := 0) G d_M_open_69 (by decide) ?_
    obtain ⟨v6, hv6, hm⟩ := Option.bind_eq_some_iff.mp hm
    refine j_pV (ty := aY_M 24) G d_M_open_70 fl_M_175 ac_M (aw_T_of_M 24 (by decide) rfl) (by decide) (by decide) hv6 ?_
    refine j_aload_n G d_M_open_73 rfl ?_
    refine j_iconst (v := 0) G d_M_open_74 (by decide) ?_
    obtain ⟨v7, hv7, hm⟩ := Option.bind_eq_some_iff.mp hm
    refine j_pV (ty := aY_M 21) G d_M_open_75 fl_M_137 ac_M (aw_T_of_M 21 (by decide) rfl) (by decide) (by decide) hv7 ?_
    refine j_aload_n G d_M_open_78 rfl ?_
    obtain ⟨v8, hv8, hm⟩ := Option.bind_eq_some_iff.mp hm
    refine j_gI G d_M_open_79 fl_M_85 hv8 ?_
    obtain rfl := Option.some.inj hm
    exact j_iret G E d_M_open_82 ⟨by decide, by decide⟩ ⟨rfl, rfl⟩
  · rw [if_neg hc] at hm
    refine j_iload_n G d_M_open_20 rfl ?_
    obtain ⟨j9, hj9, ho9⟩ := Option.bind_eq_some_iff.mp hm
    clear hm
    have hJ9 : aj_J Γ 3 (0, 0) 45 [(0, aRf o), (1, aI p1), (2, aI s3.1)] [] j9 := by
      clear hj9
      have hm := ho9
      clear ho9
      refine j_aload_n G d_M_open_45 rfl ?_
      obtain ⟨v10, hv10, hm⟩ := Option.bind_eq_some_iff.mp hm
      refine j_gR G d_M_open_46 fl_M_16 hv10 ?_
      refine j_iload_n G d_M_open_49 rfl ?_
      refine j_aload_n G d_M_open_50 rfl ?_
      obtain ⟨v11, hv11, hm⟩ := Option.bind_eq_some_iff.mp hm
      refine j_gR G d_M_open_51 fl_M_13 hv11 ?_
      refine j_iload_n G d_M_open_54 rfl ?_
      obtain ⟨v12, hv12, hm⟩ := Option.bind_eq_some_iff.mp hm
      refine j_iald G d_M_open_55 hv12 ?_
      obtain ⟨v13, hv13, hm⟩ := Option.bind_eq_some_iff.mp hm
      refine j_iast G d_M_open_56 hv13 ?_
      refine j_iinc (v := s3.1 + 1) G d_M_open_57 rfl (by first | rfl | decide) (by decide) ?_
      refine j_goto (tgt := 12) G d_M_open_60 rfl ?_
      refine j_lv [(0, aRf o), (1, aI p1), (2, aI (s3.1 + 1))] rfl ?_
      have z9 := hin3 _ (Option.some.inj hm).symm
      exact z9
    clear ho9
    have hm := hj9
    clear hj9
    refine j_if_eq (tgt := 40) G d_M_open_21 rfl (fun hc => ?_) (fun hc => ?_)
    · rw [if_pos hc] at hm
      refine j_aload_n G d_M_open_40 rfl ?_
      refine j_iload_n G d_M_open_41 rfl ?_
      obtain ⟨v14, hv14, hm⟩ := Option.bind_eq_some_iff.mp hm
      obtain ⟨v15, hv15, hm⟩ := Option.bind_eq_some_iff.mp hm
      refine j_callV (As := [aI s3.1]) G d_M_open_42 (c_M_openRecords _ G.off _ _ _ _ _ _ _ hv15) mw_M_openRecords mi_M_openRecords lk_M_187 rfl hv14 rfl rfl (Nat.le_of_ble_eq_true rfl) ⟨by decide, by decide⟩ ⟨by decide, by decide⟩ (fun v9 w9 hp => ?_)
      obtain ⟨rfl, rfl⟩ := hp
      obtain rfl := Option.some.inj hm
      refine j_lv [(0, aRf o), (1, aI p1), (2, aI s3.1)] rfl ?_
      exact hJ9
    · rw [if_neg hc] at hm
      refine j_aload_n G d_M_open_24 rfl ?_
      refine j_iload_n G d_M_open_25 rfl ?_
      obtain ⟨v16, hv16, hm⟩ := Option.bind_eq_some_iff.mp hm
      obtain ⟨v17, hv17, hm⟩ := Option.bind_eq_some_iff.mp hm
      refine j_callV (As := [aI s3.1]) G d_M_open_26 (c_M_tells _ G.off _ _ _ _ _ _ _ hv17) mw_M_tells mi_M_tells lk_M_181 rfl hv16 rfl rfl (Nat.le_of_ble_eq_true rfl) ⟨by decide, by decide⟩ ⟨by decide, by decide⟩ (fun v9 w9 hp => ?_)
      obtain ⟨rfl, rfl⟩ := hp
      refine j_if_eq (tgt := 40) G d_M_open_29 rfl (fun hc => ?_) (fun hc => ?_)
      · rw [if_pos hc] at hm
        refine j_aload_n G d_M_open_40 rfl ?_
        refine j_iload_n G d_M_open_41 rfl ?_
        obtain ⟨v18, hv18, hm⟩ := Option.bind_eq_some_iff.mp hm
        obtain ⟨v19, hv19, hm⟩ := Option.bind_eq_some_iff.mp hm
        refine j_callV (As := [aI s3.1]) G d_M_open_42 (c_M_openRecords _ G.off _ _ _ _ _ _ _ hv19) mw_M_openRecords mi_M_openRecords lk_M_187 rfl hv18 rfl rfl (Nat.le_of_ble_eq_true rfl) ⟨by decide, by decide⟩ ⟨by decide, by decide⟩ (fun v9 w9 hp => ?_)
        obtain ⟨rfl, rfl⟩ := hp
        obtain rfl := Option.some.inj hm
        refine j_lv [(0, aRf o), (1, aI p1), (2, aI s3.1)] rfl ?_
        exact hJ9
      · rw [if_neg hc] at hm
        refine j_aload_n G d_M_open_32 rfl ?_
        refine j_iload_n G d_M_open_33 rfl ?_
        obtain ⟨v20, hv20, hm⟩ := Option.bind_eq_some_iff.mp hm
        obtain ⟨v21, hv21, hm⟩ := Option.bind_eq_some_iff.mp hm
        refine j_callV (As := [aI s3.1]) G d_M_open_34 (c_M_openHint _ G.off _ _ _ _ _ _ _ hv21) mw_M_openHint mi_M_openHint lk_M_184 rfl hv20 rfl rfl (Nat.le_of_ble_eq_true rfl) ⟨by decide, by decide⟩ ⟨by decide, by decide⟩ (fun v9 w9 hp => ?_)
        obtain ⟨rfl, rfl⟩ := hp
        refine j_goto (tgt := 45) G d_M_open_37 rfl ?_
        obtain rfl := Option.some.inj hm
        refine j_lv [(0, aRf o), (1, aI p1), (2, aI s3.1)] rfl ?_
        exact hJ9
noncomputable def f_M_skip (w : aw_W) (o : Option Nat) : Option (aw_W) :=
  (aw_wh (σ := aw_W) (τ := aw_W) (fun s1 =>
    (aw_gI s1 o 7 26).bind fun v2 =>
    (aw_gI s1 o 7 25).bind fun v3 =>
    if v3 ≤ v2 then
      some (.inr s1)
    else
      (aw_gI s1 o 7 27).bind fun v4 =>
      (aw_gR s1 o 7 9).bind fun v5 =>
      (aw_gI s1 o 7 26).bind fun v6 =>
      (aw_aI s1 v5 1 v6).bind fun v7 =>
      if v4 = v7 then
        (aw_gI s1 o 7 26).bind fun v8 =>
        (aw_pV s1 o 7 26 (.int (v8 + (1 : Int32)))).bind fun v9 =>
        (aw_pV v9 o 7 27 (.int (0 : Int32))).bind fun v10 =>
        some (.inl v10)
      else
        some (.inr s1)) w).bind fun e11 =>
  some e11
abbrev rm_M_skip : Room := { frames := 0, cells := 0, slots := 0, locals := 0 }
set_option maxRecDepth 100000 in
set_option maxHeartbeats 4000000 in
theorem c_M_skip (l : Launch) (hl : l.stackTraces = false) (D : va_G) (dA : Nat → ClassId) (base : Nat) (w : aw_W) (o : Option Nat) (r : aw_W) (hm : f_M_skip w o = some r) : aj_Ct l D dA base m_M_skip rm_M_skip [aRf o] w (fun v w' => none = v ∧ r = w') := by
  refine aj_enter hl (by decide) (Nat.le_of_ble_eq_true rfl) ?_
  intro Γ G E
  unfold f_M_skip at hm
  obtain ⟨e1, he1, ho1⟩ := Option.bind_eq_some_iff.mp hm
  clear hm
  refine j_lv [(0, aRf o)] rfl ?_
  refine aw_wh_elim (fun (s : aw_W) => aj_J Γ 1 (0, 0) 0 [(0, aRf o)] [] s) ?_ he1
  intro s1 x1 hm hin1 hout1
  try dsimp only at hm ⊢
  refine j_aload_n G d_M_skip_0 rfl ?_
  obtain ⟨v2, hv2, hm⟩ := Option.bind_eq_some_iff.mp hm
  refine j_gI G d_M_skip_1 fl_M_190 hv2 ?_
  refine j_aload_n G d_M_skip_4 rfl ?_
  obtain ⟨v3, hv3, hm⟩ := Option.bind_eq_some_iff.mp hm
  refine j_gI G d_M_skip_5 fl_M_193 hv3 ?_
  refine j_icmp_ge (tgt := 45) G d_M_skip_8 rfl (fun hc => ?_) (fun hc => ?_)
  · rw [if_pos hc] at hm
    have q1 := hout1 _ (Option.some.inj hm).symm
    clear hin1 hout1
    subst q1
    clear hm
    have hm := ho1
    clear ho1
    try dsimp only at hm
    obtain rfl := Option.some.inj hm
    exact j_vret G E d_M_skip_45 ⟨by decide, by decide⟩ ⟨rfl, rfl⟩
  · rw [if_neg hc] at hm
    refine j_aload_n G d_M_skip_11 rfl ?_
    obtain ⟨v4, hv4, hm⟩ := Option.bind_eq_some_iff.mp hm
    refine j_gI G d_M_skip_12 fl_M_196 hv4 ?_
    refine j_aload_n G d_M_skip_15 rfl ?_
    obtain ⟨v5, hv5, hm⟩ := Option.bind_eq_some_iff.mp hm
    refine j_gR G d_M_skip_16 fl_M_32 hv5 ?_
    refine j_aload_n G d_M_skip_19 rfl ?_
    obtain ⟨v6, hv6, hm⟩ := Option.bind_eq_some_iff.mp hm
    refine j_gI G d_M_skip_20 fl_M_190 hv6 ?_
    obtain ⟨v7, hv7, hm⟩ := Option.bind_eq_some_iff.mp hm
    refine j_iald G d_M_skip_23 hv7 ?_
    refine j_icmp_ne (tgt := 45) G d_M_skip_24 rfl (fun hc => ?_) (fun hc => ?_)
    · rw [if_neg hc] at hm
      have q1 := hout1 _ (Option.some.inj hm).symm
      clear hin1 hout1
      subst q1
      clear hm
      have hm := ho1
      clear ho1
      try dsimp only at hm
      obtain rfl := Option.some.inj hm
      exact j_vret G E d_M_skip_45 ⟨by decide, by decide⟩ ⟨rfl, rfl⟩
    · rw [if_pos hc] at hm
      refine j_aload_n G d_M_skip_27 rfl ?_
      refine j_dup G d_M_skip_28 rfl ?_
      obtain ⟨v8, hv8, hm⟩ := Option.bind_eq_some_iff.mp hm
      refine j_gI G d_M_skip_29 fl_M_190 hv8 ?_
      refine j_iconst (v := 1) G d_M_skip_32 (by decide) ?_
      refine j_iadd G d_M_skip_33 ?_
      obtain ⟨v9, hv9, hm⟩ := Option.bind_eq_some_iff.mp hm
      refine j_pV (ty := aY_M 26) G d_M_skip_34 fl_M_190 ac_M (aw_T_of_M 26 (by decide) rfl) rfl rfl hv9 ?_
      refine j_aload_n G d_M_skip_37 rfl ?_
      refine j_iconst (v := 0) G d_M_skip_38 (by decide) ?_
      obtain ⟨v10, hv10, hm⟩ := Option.bind_eq_some_iff.mp hm
      refine j_pV (ty := aY_M 27) G d_M_skip_39 fl_M_196 ac_M (aw_T_of_M 27 (by decide) rfl) rfl rfl hv10 ?_
      refine j_goto (tgt := 0) G d_M_skip_42 rfl ?_
      refine j_lv [(0, aRf o)] rfl ?_
      have z9 := hin1 _ (Option.some.inj hm).symm
      exact z9
noncomputable def f_M_comeToNext (w : aw_W) (o : Option Nat) : Option (aw_W) :=
  (aw_gR w o 7 2).bind fun v1 =>
  (aw_gI w o 7 26).bind fun v2 =>
  (aw_aI w v1 1 v2).bind fun v3 =>
  (aw_gI w o 7 27).bind fun v4 =>
  (aw_obj w o 7).bind fun v5 =>
  (f_M_live w o v3 v4).bind fun v6 =>
  (if v6 < 0 then
      some w
    else
      (aw_gI w o 7 26).bind fun v7 =>
      (aw_gI w o 7 27).bind fun v8 =>
      (aw_obj w o 7).bind fun v9 =>
      (f_M_length w o v7 v8).bind fun v10 =>
      (aw_gI w o 7 28).bind fun v11 =>
      (if v11 = 0 then
          (aw_gI w o 7 28).bind fun v12 =>
          (aw_obj w o 7).bind fun v13 =>
          (f_M_clearRow w o ((6 : Int32) + v12)).bind fun v14 =>
          (aw_gI v14 o 7 28).bind fun v15 =>
          (aw_pV v14 o 7 28 (.int (v15 + (1 : Int32)))).bind fun v16 =>
          some v16
        else
          (aw_gR w o 7 3).bind fun v17 =>
          (aw_gI w o 7 28).bind fun v18 =>
          (aw_aI w v17 1 ((5 : Int32) + v18)).bind fun v19 =>
          if (v19 + v10) ≤ (100 : Int32) then
            some w
          else
            (aw_gI w o 7 28).bind fun v20 =>
            (aw_obj w o 7).bind fun v21 =>
            (f_M_clearRow w o ((6 : Int32) + v20)).bind fun v22 =>
            (aw_gI v22 o 7 28).bind fun v23 =>
            (aw_pV v22 o 7 28 (.int (v23 + (1 : Int32)))).bind fun v24 =>
            some v24 : Option (aw_W)).bind fun j25 =>
      (aw_gI j25 o 7 28).bind fun v26 =>
      (aw_gR j25 o 7 9).bind fun v27 =>
      (aw_aI j25 v27 1 ((5 : Int32) + v26)).bind fun v28 =>
      (aw_gR j25 o 7 13).bind fun v29 =>
      (aw_gR j25 o 7 2).bind fun v30 =>
      (aw_gI j25 o 7 26).bind fun v31 =>
      (aw_aI j25 v30 1 v31).bind fun v32 =>
      (aw_sI j25 v29 1 (((12 : Int32) * ((5 : Int32) + v26)) + v28) v32).bind fun v33 =>
      (aw_gR v33 o 7 14).bind fun v34 =>
      (aw_gI v33 o 7 27).bind fun v35 =>
      (aw_sI v33 v34 1 (((12 : Int32) * ((5 : Int32) + v26)) + v28) v35).bind fun v36 =>
      (aw_gI v36 o 7 26).bind fun v37 =>
      (aw_gR v36 o 7 10).bind fun v38 =>
      (aw_gI v36 o 7 26).bind fun v39 =>
      (aw_gI v36 o 7 27).bind fun v40 =>
      (aw_aI v36 v38 1 (((12 : Int32) * v39) + v40)).bind fun v41 =>
      (aw_gR v36 o 7 3).bind fun v42 =>
      (aw_aI v36 v42 1 ((5 : Int32) + v26)).bind fun v43 =>
      (aw_gR v36 o 7 11).bind fun v44 =>
      (aw_gI v36 o 7 26).bind fun v45 =>
      (aw_gI v36 o 7 27).bind fun v46 =>
      (aw_aI v36 v44 1 (((12 : Int32) * v45) + v46)).bind fun v47 =>
      (aw_gR v36 o 7 12).bind fun v48 =>
      (aw_gI v36 o 7 26).bind fun v49 =>
      (aw_gI v36 o 7 27).bind fun v50 =>
      (aw_aI v36 v48 1 (((12 : Int32) * v49) + v50)).bind fun v51 =>
      (aw_obj v36 o 7).bind fun v52 =>
      (f_M_note v36 o ((5 : Int32) + v26) v43 v47 v51).bind fun v53 =>
      (aw_wh (σ := Int32 × aw_W) (τ := Int32 × aw_W) (fun s54 =>
        if v10 ≤ s54.1 then
          some (.inr (s54.1, s54.2))
        else
          (aw_gR s54.2 o 7 5).bind fun v55 =>
          (aw_aI s54.2 v55 1 ((((100 : Int32) * v37) + v41) + s54.1)).bind fun v56 =>
          (aw_obj s54.2 o 7).bind fun v57 =>
          (f_M_putByte s54.2 o ((5 : Int32) + v26) v56).bind fun v58 =>
          some (.inl (s54.1 + 1, v58))) ((0 : Int32), v53)).bind fun e59 =>
      some e59.2 : Option (aw_W)).bind fun j60 =>
  (aw_gI j60 o 7 27).bind fun v61 =>
  (aw_pV j60 o 7 27 (.int (v61 + (1 : Int32)))).bind fun v62 =>
  (aw_obj v62 o 7).bind fun v63 =>
  (f_M_skip v62 o).bind fun v64 =>
  some v64
abbrev rm_M_comeToNext : Room := { frames := 2, cells := 0, slots := 0, locals := 43 }
set_option maxRecDepth 100000 in
set_option maxHeartbeats 4000000 in
theorem c_M_comeToNext (l : Launch) (hl : l.stackTraces = false) (D : va_G) (dA : Nat → ClassId) (base : Nat) (w : aw_W) (o : Option Nat) (r : aw_W) (hm : f_M_comeToNext w o = some r) : aj_Ct l D dA base m_M_comeToNext rm_M_comeToNext [aRf o] w (fun v w' => none = v ∧ r = w') := by
  refine aj_enter hl (by decide) (Nat.le_of_ble_eq_true rfl) ?_
  intro Γ G E
  unfold f_M_comeToNext at hm
  refine j_aload_n G d_M_comeToNext_0 rfl ?_
  refine j_aload_n G d_M_comeToNext_1 rfl ?_
  obtain ⟨v1, hv1, hm⟩ := Option.bind_eq_some_iff.mp hm
  refine j_gR G d_M_comeToNext_2 fl_M_7 hv1 ?_
  refine j_aload_n G d_M_comeToNext_5 rfl ?_
  obtain ⟨v2, hv2, hm⟩ := Option.bind_eq_some_iff.mp hm
  refine j_gI G d_M_comeToNext_6 fl_M_190 hv2 ?_
  obtain ⟨v3, hv3, hm⟩ := Option.bind_eq_some_iff.mp hm
  refine j_iald G d_M_comeToNext_9 hv3 ?_
  refine j_aload_n G d_M_comeToNext_10 rfl ?_
  obtain ⟨v4, hv4, hm⟩ := Option.bind_eq_some_iff.mp hm
  refine j_gI G d_M_comeToNext_11 fl_M_196 hv4 ?_
  obtain ⟨v5, hv5, hm⟩ := Option.bind_eq_some_iff.mp hm
  obtain ⟨v6, hv6, hm⟩ := Option.bind_eq_some_iff.mp hm
  refine j_callV (As := [aI v3, aI v4]) G d_M_comeToNext_14 (c_M_live _ G.off _ _ _ _ _ _ _ _ hv6) mw_M_live mi_M_live lk_M_199 rfl hv5 rfl rfl (Nat.le_of_ble_eq_true rfl) ⟨by decide, by decide⟩ ⟨by decide, by decide⟩ (fun v9 w9 hp => ?_)
  obtain ⟨rfl, rfl⟩ := hp
  obtain ⟨j7, hj7, ho7⟩ := Option.bind_eq_some_iff.mp hm
  clear hm
  have hJ7 : aj_J Γ 6 (0, 0) 225 [(0, aRf o)] [] j7 := by
    clear hj7
    have hm := ho7
    clear ho7
    refine j_aload_n G d_M_comeToNext_225 rfl ?_
    refine j_dup G d_M_comeToNext_226 rfl ?_
    obtain ⟨v8, hv8, hm⟩ := Option.bind_eq_some_iff.mp hm
    refine j_gI G d_M_comeToNext_227 fl_M_196 hv8 ?_
    refine j_iconst (v := 1) G d_M_comeToNext_230 (by decide) ?_
    refine j_iadd G d_M_comeToNext_231 ?_
    obtain ⟨v9, hv9, hm⟩ := Option.bind_eq_some_iff.mp hm
    refine j_pV (ty := aY_M 27) G d_M_comeToNext_232 fl_M_196 ac_M (aw_T_of_M 27 (by decide) rfl) rfl rfl hv9 ?_
    refine j_aload_n G d_M_comeToNext_235 rfl ?_
    obtain ⟨v10, hv10, hm⟩ := Option.bind_eq_some_iff.mp hm
    obtain ⟨v11, hv11, hm⟩ := Option.bind_eq_some_iff.mp hm
    refine j_callV (As := []) G d_M_comeToNext_236 (c_M_skip _ G.off _ _ _ _ _ _ hv11) mw_M_skip mi_M_skip lk_M_205 rfl hv10 rfl rfl (Nat.le_of_ble_eq_true rfl) ⟨by decide, by decide⟩ ⟨by decide, by decide⟩ (fun v9 w9 hp => ?_)
    obtain ⟨rfl, rfl⟩ := hp
    obtain rfl := Option.some.inj hm
    exact j_vret G E d_M_comeToNext_239 ⟨by decide, by decide⟩ ⟨rfl, rfl⟩
  clear ho7
  have hm := hj7
  clear hj7
  refine j_if_lt (tgt := 225) G d_M_comeToNext_17 rfl (fun hc => ?_) (fun hc => ?_)
  · rw [if_pos hc] at hm
    obtain rfl := Option.some.inj hm
    refine j_lv [(0, aRf o)] rfl ?_
    exact hJ7
  · rw [if_neg hc] at hm
    refine j_aload_n G d_M_comeToNext_20 rfl ?_
    refine j_aload_n G d_M_comeToNext_21 rfl ?_
    obtain ⟨v12, hv12, hm⟩ := Option.bind_eq_some_iff.mp hm
    refine j_gI G d_M_comeToNext_22 fl_M_190 hv12 ?_
    refine j_aload_n G d_M_comeToNext_25 rfl ?_
    obtain ⟨v13, hv13, hm⟩ := Option.bind_eq_some_iff.mp hm
    refine j_gI G d_M_comeToNext_26 fl_M_196 hv13 ?_
    obtain ⟨v14, hv14, hm⟩ := Option.bind_eq_some_iff.mp hm
    obtain ⟨v15, hv15, hm⟩ := Option.bind_eq_some_iff.mp hm
    refine j_callV (As := [aI v12, aI v13]) G d_M_comeToNext_29 (c_M_length _ G.off _ _ _ _ _ _ _ _ hv15) mw_M_length mi_M_length lk_M_166 rfl hv14 rfl rfl (Nat.le_of_ble_eq_true rfl) ⟨by decide, by decide⟩ ⟨by decide, by decide⟩ (fun v9 w9 hp => ?_)
    obtain ⟨rfl, rfl⟩ := hp
    refine j_istore_n G d_M_comeToNext_32 (by decide) ?_
    refine j_aload_n G d_M_comeToNext_33 rfl ?_
    obtain ⟨v16, hv16, hm⟩ := Option.bind_eq_some_iff.mp hm
    refine j_gI G d_M_comeToNext_34 fl_M_202 hv16 ?_
    obtain ⟨j17, hj17, ho17⟩ := Option.bind_eq_some_iff.mp hm
    clear hm
    have hJ17 : aj_J Γ 6 (0, 0) 79 [(0, aRf o), (1, aI v15)] [] j17 := by
      clear hj17
      have hm := ho17
      clear ho17
      refine j_iconst (v := 5) G d_M_comeToNext_79 (by decide) ?_
      refine j_aload_n G d_M_comeToNext_80 rfl ?_
      obtain ⟨v18, hv18, hm⟩ := Option.bind_eq_some_iff.mp hm
      refine j_gI G d_M_comeToNext_81 fl_M_202 hv18 ?_
      refine j_iadd G d_M_comeToNext_84 ?_
      refine j_istore_n G d_M_comeToNext_85 (by decide) ?_
      refine j_bipush (v := 12) G d_M_comeToNext_86 (by decide) ?_
      refine j_iload_n G d_M_comeToNext_88 rfl ?_
      refine j_imul G d_M_comeToNext_89 ?_
      refine j_aload_n G d_M_comeToNext_90 rfl ?_
      obtain ⟨v19, hv19, hm⟩ := Option.bind_eq_some_iff.mp hm
      refine j_gR G d_M_comeToNext_91 fl_M_32 hv19 ?_
      refine j_iload_n G d_M_comeToNext_94 rfl ?_
      obtain ⟨v20, hv20, hm⟩ := Option.bind_eq_some_iff.mp hm
      refine j_iald G d_M_comeToNext_95 hv20 ?_
      refine j_iadd G d_M_comeToNext_96 ?_
      refine j_istore_n G d_M_comeToNext_97 (by decide) ?_
      refine j_aload_n G d_M_comeToNext_98 rfl ?_
      obtain ⟨v21, hv21, hm⟩ := Option.bind_eq_some_iff.mp hm
      refine j_gR G d_M_comeToNext_99 fl_M_44 hv21 ?_
      refine j_iload_n G d_M_comeToNext_102 rfl ?_
      refine j_aload_n G d_M_comeToNext_103 rfl ?_
      obtain ⟨v22, hv22, hm⟩ := Option.bind_eq_some_iff.mp hm
      refine j_gR G d_M_comeToNext_104 fl_M_7 hv22 ?_
      refine j_aload_n G d_M_comeToNext_107 rfl ?_
      obtain ⟨v23, hv23, hm⟩ := Option.bind_eq_some_iff.mp hm
      refine j_gI G d_M_comeToNext_108 fl_M_190 hv23 ?_
      obtain ⟨v24, hv24, hm⟩ := Option.bind_eq_some_iff.mp hm
      refine j_iald G d_M_comeToNext_111 hv24 ?_
      obtain ⟨v25, hv25, hm⟩ := Option.bind_eq_some_iff.mp hm
      refine j_iast G d_M_comeToNext_112 hv25 ?_
      refine j_aload_n G d_M_comeToNext_113 rfl ?_
      obtain ⟨v26, hv26, hm⟩ := Option.bind_eq_some_iff.mp hm
      refine j_gR G d_M_comeToNext_114 fl_M_47 hv26 ?_
      refine j_iload_n G d_M_comeToNext_117 rfl ?_
      refine j_aload_n G d_M_comeToNext_118 rfl ?_
      obtain ⟨v27, hv27, hm⟩ := Option.bind_eq_some_iff.mp hm
      refine j_gI G d_M_comeToNext_119 fl_M_196 hv27 ?_
      obtain ⟨v28, hv28, hm⟩ := Option.bind_eq_some_iff.mp hm
      refine j_iast G d_M_comeToNext_122 hv28 ?_
      refine j_bipush (v := 100) G d_M_comeToNext_123 (by decide) ?_
      refine j_aload_n G d_M_comeToNext_125 rfl ?_
      obtain ⟨v29, hv29, hm⟩ := Option.bind_eq_some_iff.mp hm
      refine j_gI G d_M_comeToNext_126 fl_M_190 hv29 ?_
      refine j_imul G d_M_comeToNext_129 ?_
      refine j_aload_n G d_M_comeToNext_130 rfl ?_
      obtain ⟨v30, hv30, hm⟩ := Option.bind_eq_some_iff.mp hm
      refine j_gR G d_M_comeToNext_131 fl_M_35 hv30 ?_
      refine j_bipush (v := 12) G d_M_comeToNext_134 (by decide) ?_
      refine j_aload_n G d_M_comeToNext_136 rfl ?_
      obtain ⟨v31, hv31, hm⟩ := Option.bind_eq_some_iff.mp hm
      refine j_gI G d_M_comeToNext_137 fl_M_190 hv31 ?_
      refine j_imul G d_M_comeToNext_140 ?_
      refine j_aload_n G d_M_comeToNext_141 rfl ?_
      obtain ⟨v32, hv32, hm⟩ := Option.bind_eq_some_iff.mp hm
      refine j_gI G d_M_comeToNext_142 fl_M_196 hv32 ?_
      refine j_iadd G d_M_comeToNext_145 ?_
      obtain ⟨v33, hv33, hm⟩ := Option.bind_eq_some_iff.mp hm
      refine j_iald G d_M_comeToNext_146 hv33 ?_
      refine j_iadd G d_M_comeToNext_147 ?_
      refine j_istore G d_M_comeToNext_148 (by decide) ?_
      refine j_aload_n G d_M_comeToNext_150 rfl ?_
      refine j_iload_n G d_M_comeToNext_151 rfl ?_
      refine j_aload_n G d_M_comeToNext_152 rfl ?_
      obtain ⟨v34, hv34, hm⟩ := Option.bind_eq_some_iff.mp hm
      refine j_gR G d_M_comeToNext_153 fl_M_13 hv34 ?_
      refine j_iload_n G d_M_comeToNext_156 rfl ?_
      obtain ⟨v35, hv35, hm⟩ := Option.bind_eq_some_iff.mp hm
      refine j_iald G d_M_comeToNext_157 hv35 ?_
      refine j_aload_n G d_M_comeToNext_158 rfl ?_
      obtain ⟨v36, hv36, hm⟩ := Option.bind_eq_some_iff.mp hm
      refine j_gR G d_M_comeToNext_159 fl_M_38 hv36 ?_
      refine j_bipush (v := 12) G d_M_comeToNext_162 (by decide) ?_
      refine j_aload_n G d_M_comeToNext_164 rfl ?_
      obtain ⟨v37, hv37, hm⟩ := Option.bind_eq_some_iff.mp hm
      refine j_gI G d_M_comeToNext_165 fl_M_190 hv37 ?_
      refine j_imul G d_M_comeToNext_168 ?_
      refine j_aload_n G d_M_comeToNext_169 rfl ?_
      obtain ⟨v38, hv38, hm⟩ := Option.bind_eq_some_iff.mp hm
      refine j_gI G d_M_comeToNext_170 fl_M_196 hv38 ?_
      refine j_iadd G d_M_comeToNext_173 ?_
      obtain ⟨v39, hv39, hm⟩ := Option.bind_eq_some_iff.mp hm
      refine j_iald G d_M_comeToNext_174 hv39 ?_
      refine j_aload_n G d_M_comeToNext_175 rfl ?_
      obtain ⟨v40, hv40, hm⟩ := Option.bind_eq_some_iff.mp hm
      refine j_gR G d_M_comeToNext_176 fl_M_41 hv40 ?_
      refine j_bipush (v := 12) G d_M_comeToNext_179 (by decide) ?_
      refine j_aload_n G d_M_comeToNext_181 rfl ?_
      obtain ⟨v41, hv41, hm⟩ := Option.bind_eq_some_iff.mp hm
      refine j_gI G d_M_comeToNext_182 fl_M_190 hv41 ?_
      refine j_imul G d_M_comeToNext_185 ?_
      refine j_aload_n G d_M_comeToNext_186 rfl ?_
      obtain ⟨v42, hv42, hm⟩ := Option.bind_eq_some_iff.mp hm
      refine j_gI G d_M_comeToNext_187 fl_M_196 hv42 ?_
      refine j_iadd G d_M_comeToNext_190 ?_
      obtain ⟨v43, hv43, hm⟩ := Option.bind_eq_some_iff.mp hm
      refine j_iald G d_M_comeToNext_191 hv43 ?_
      obtain ⟨v44, hv44, hm⟩ := Option.bind_eq_some_iff.mp hm
      obtain ⟨v45, hv45, hm⟩ := Option.bind_eq_some_iff.mp hm
      refine j_callV (As := [aI ((5 : Int32) + v18), aI v35, aI v39, aI v43]) G d_M_comeToNext_192 (c_M_note _ G.off _ _ _ _ _ _ _ _ _ _ hv45) mw_M_note mi_M_note lk_M_117 rfl hv44 rfl rfl (Nat.le_of_ble_eq_true rfl) ⟨by decide, by decide⟩ ⟨by decide, by decide⟩ (fun v9 w9 hp => ?_)
      obtain ⟨rfl, rfl⟩ := hp
      refine j_iconst (v := 0) G d_M_comeToNext_195 (by decide) ?_
      refine j_istore G d_M_comeToNext_196 (by decide) ?_
      obtain ⟨e46, he46, ho46⟩ := Option.bind_eq_some_iff.mp hm
      clear hm
      refine j_lv [(0, aRf o), (1, aI v15), (2, aI ((5 : Int32) + v18)), (4, aI (((100 : Int32) * v29) + v33)), (5, aI (0 : Int32))] rfl ?_
      refine aw_wh_elim (fun (s : Int32 × aw_W) => aj_J Γ 6 (0, 0) 198 [(0, aRf o), (1, aI v15), (2, aI ((5 : Int32) + v18)), (4, aI (((100 : Int32) * v29) + v33)), (5, aI s.1)] [] s.2) ?_ he46
      intro s46 x46 hm hin46 hout46
      try dsimp only at hm ⊢
      refine j_iload G d_M_comeToNext_198 rfl ?_
      refine j_iload_n G d_M_comeToNext_200 rfl ?_
      refine j_icmp_ge (tgt := 225) G d_M_comeToNext_201 rfl (fun hc => ?_) (fun hc => ?_)
      · rw [if_pos hc] at hm
        have q46 := hout46 _ (Option.some.inj hm).symm
        clear hin46 hout46
        subst q46
        clear hm
        have hm := ho46
        clear ho46
        try dsimp only at hm
        obtain rfl := Option.some.inj hm
        refine j_lv [(0, aRf o)] rfl ?_
        exact hJ7
      · rw [if_neg hc] at hm
        refine j_aload_n G d_M_comeToNext_204 rfl ?_
        refine j_iload_n G d_M_comeToNext_205 rfl ?_
        refine j_aload_n G d_M_comeToNext_206 rfl ?_
        obtain ⟨v47, hv47, hm⟩ := Option.bind_eq_some_iff.mp hm
        refine j_gR G d_M_comeToNext_207 fl_M_19 hv47 ?_
        refine j_iload G d_M_comeToNext_210 rfl ?_
        refine j_iload G d_M_comeToNext_212 rfl ?_
        refine j_iadd G d_M_comeToNext_214 ?_
        obtain ⟨v48, hv48, hm⟩ := Option.bind_eq_some_iff.mp hm
        refine j_iald G d_M_comeToNext_215 hv48 ?_
        obtain ⟨v49, hv49, hm⟩ := Option.bind_eq_some_iff.mp hm
        obtain ⟨v50, hv50, hm⟩ := Option.bind_eq_some_iff.mp hm
        refine j_callV (As := [aI ((5 : Int32) + v18), aI v48]) G d_M_comeToNext_216 (c_M_putByte _ G.off _ _ _ _ _ _ _ _ hv50) mw_M_putByte mi_M_putByte lk_M_106 rfl hv49 rfl rfl (Nat.le_of_ble_eq_true rfl) ⟨by decide, by decide⟩ ⟨by decide, by decide⟩ (fun v9 w9 hp => ?_)
        obtain ⟨rfl, rfl⟩ := hp
        refine j_iinc (v := s46.1 + 1) G d_M_comeToNext_219 rfl (by first | rfl | decide) (by decide) ?_
        refine j_goto (tgt := 198) G d_M_comeToNext_222 rfl ?_
        refine j_lv [(0, aRf o), (1, aI v15), (2, aI ((5 : Int32) + v18)), (4, aI (((100 : Int32) * v29) + v33)), (5, aI (s46.1 + 1))] rfl ?_
        have z9 := hin46 _ (Option.some.inj hm).symm
        exact z9
    clear ho17
    have hm := hj17
    clear hj17
    refine j_if_eq (tgt := 58) G d_M_comeToNext_37 rfl (fun hc => ?_) (fun hc => ?_)
    · rw [if_pos hc] at hm
      refine j_aload_n G d_M_comeToNext_58 rfl ?_
      refine j_bipush (v := 6) G d_M_comeToNext_59 (by decide) ?_
      refine j_aload_n G d_M_comeToNext_61 rfl ?_
      obtain ⟨v51, hv51, hm⟩ := Option.bind_eq_some_iff.mp hm
      refine j_gI G d_M_comeToNext_62 fl_M_202 hv51 ?_
      refine j_iadd G d_M_comeToNext_65 ?_
      obtain ⟨v52, hv52, hm⟩ := Option.bind_eq_some_iff.mp hm
      obtain ⟨v53, hv53, hm⟩ := Option.bind_eq_some_iff.mp hm
      refine j_callV (As := [aI ((6 : Int32) + v51)]) G d_M_comeToNext_66 (c_M_clearRow _ G.off _ _ _ _ _ _ _ hv53) mw_M_clearRow mi_M_clearRow lk_M_110 rfl hv52 rfl rfl (Nat.le_of_ble_eq_true rfl) ⟨by decide, by decide⟩ ⟨by decide, by decide⟩ (fun v9 w9 hp => ?_)
      obtain ⟨rfl, rfl⟩ := hp
      refine j_aload_n G d_M_comeToNext_69 rfl ?_
      refine j_dup G d_M_comeToNext_70 rfl ?_
      obtain ⟨v54, hv54, hm⟩ := Option.bind_eq_some_iff.mp hm
      refine j_gI G d_M_comeToNext_71 fl_M_202 hv54 ?_
      refine j_iconst (v := 1) G d_M_comeToNext_74 (by decide) ?_
      refine j_iadd G d_M_comeToNext_75 ?_
      obtain ⟨v55, hv55, hm⟩ := Option.bind_eq_some_iff.mp hm
      refine j_pV (ty := aY_M 28) G d_M_comeToNext_76 fl_M_202 ac_M (aw_T_of_M 28 (by decide) rfl) rfl rfl hv55 ?_
      obtain rfl := Option.some.inj hm
      refine j_lv [(0, aRf o), (1, aI v15)] rfl ?_
      exact hJ17
    · rw [if_neg hc] at hm
      refine j_aload_n G d_M_comeToNext_40 rfl ?_
      obtain ⟨v56, hv56, hm⟩ := Option.bind_eq_some_iff.mp hm
      refine j_gR G d_M_comeToNext_41 fl_M_13 hv56 ?_
      refine j_iconst (v := 5) G d_M_comeToNext_44 (by decide) ?_
      refine j_aload_n G d_M_comeToNext_45 rfl ?_
      obtain ⟨v57, hv57, hm⟩ := Option.bind_eq_some_iff.mp hm
      refine j_gI G d_M_comeToNext_46 fl_M_202 hv57 ?_
      refine j_iadd G d_M_comeToNext_49 ?_
      obtain ⟨v58, hv58, hm⟩ := Option.bind_eq_some_iff.mp hm
      refine j_iald G d_M_comeToNext_50 hv58 ?_
      refine j_iload_n G d_M_comeToNext_51 rfl ?_
      refine j_iadd G d_M_comeToNext_52 ?_
      refine j_bipush (v := 100) G d_M_comeToNext_53 (by decide) ?_
      refine j_icmp_le (tgt := 79) G d_M_comeToNext_55 rfl (fun hc => ?_) (fun hc => ?_)
      · rw [if_pos hc] at hm
        obtain rfl := Option.some.inj hm
        refine j_lv [(0, aRf o), (1, aI v15)] rfl ?_
        exact hJ17
      · rw [if_neg hc] at hm
        refine j_aload_n G d_M_comeToNext_58 rfl ?_
        refine j_bipush (v := 6) G d_M_comeToNext_59 (by decide) ?_
        refine j_aload_n G d_M_comeToNext_61 rfl ?_
        obtain ⟨v59, hv59, hm⟩ := Option.bind_eq_some_iff.mp hm
        refine j_gI G d_M_comeToNext_62 fl_M_202 hv59 ?_
        refine j_iadd G d_M_comeToNext_65 ?_
        obtain ⟨v60, hv60, hm⟩ := Option.bind_eq_some_iff.mp hm
        obtain ⟨v61, hv61, hm⟩ := Option.bind_eq_some_iff.mp hm
        refine j_callV (As := [aI ((6 : Int32) + v59)]) G d_M_comeToNext_66 (c_M_clearRow _ G.off _ _ _ _ _ _ _ hv61) mw_M_clearRow mi_M_clearRow lk_M_110 rfl hv60 rfl rfl (Nat.le_of_ble_eq_true rfl) ⟨by decide, by decide⟩ ⟨by decide, by decide⟩ (fun v9 w9 hp => ?_)
        obtain ⟨rfl, rfl⟩ := hp
        refine j_aload_n G d_M_comeToNext_69 rfl ?_
        refine j_dup G d_M_comeToNext_70 rfl ?_
        obtain ⟨v62, hv62, hm⟩ := Option.bind_eq_some_iff.mp hm
        refine j_gI G d_M_comeToNext_71 fl_M_202 hv62 ?_
        refine j_iconst (v := 1) G d_M_comeToNext_74 (by decide) ?_
        refine j_iadd G d_M_comeToNext_75 ?_
        obtain ⟨v63, hv63, hm⟩ := Option.bind_eq_some_iff.mp hm
        refine j_pV (ty := aY_M 28) G d_M_comeToNext_76 fl_M_202 ac_M (aw_T_of_M 28 (by decide) rfl) rfl rfl hv63 ?_
        obtain rfl := Option.some.inj hm
        refine j_lv [(0, aRf o), (1, aI v15)] rfl ?_
        exact hJ17
noncomputable def f_M_makeHint (w : aw_W) (o : Option Nat) (p1 : Int32) : Option (aw_W) :=
  (aw_wh (σ := Int32 × Int32 × aw_W) (τ := Int32 × Int32 × aw_W) (fun s1 =>
    (aw_gR s1.2.2 o 7 9).bind fun v2 =>
    (aw_aI s1.2.2 v2 1 p1).bind fun v3 =>
    if v3 ≤ s1.2.1 then
      some (.inr (s1.1, s1.2.1, s1.2.2))
    else
      (aw_gR s1.2.2 o 7 10).bind fun v4 =>
      (aw_aI s1.2.2 v4 1 (((12 : Int32) * p1) + s1.2.1)).bind fun v5 =>
      (aw_wh (σ := Int32 × Int32 × aw_W) (τ := Int32 × Int32 × aw_W) (fun s6 =>
        (aw_gR s6.2.2 o 7 11).bind fun v7 =>
        (aw_aI s6.2.2 v7 1 (((12 : Int32) * p1) + s1.2.1)).bind fun v8 =>
        if ((8 : Int32) + v8) ≤ s6.2.1 then
          some (.inr (s6.1, s6.2.1, s6.2.2))
        else
          (if s6.2.1 = (8 : Int32) then
              (aw_gR s6.2.2 o 7 8).bind fun v9 =>
              (aw_sI s6.2.2 v9 1 s6.1 v5).bind fun v10 =>
              some (s6.1 + 1, v10)
            else
              some (s6.1, s6.2.2) : Option (Int32 × aw_W)).bind fun j11 =>
          (aw_gR j11.2 o 7 8).bind fun v12 =>
          (aw_gR j11.2 o 7 5).bind fun v13 =>
          (aw_aI j11.2 v13 1 ((((100 : Int32) * p1) + v5) + s6.2.1)).bind fun v14 =>
          (aw_sI j11.2 v12 1 j11.1 v14).bind fun v15 =>
          some (.inl (j11.1 + 1, s6.2.1 + 1, v15))) (s1.1, (4 : Int32), s1.2.2)).bind fun e16 =>
      some (.inl (e16.1, s1.2.1 + 1, e16.2.2))) ((120 : Int32) * p1, (0 : Int32), w)).bind fun e17 =>
  (aw_gR e17.2.2 o 7 8).bind fun v18 =>
  (f_M_sumOf e17.2.2 v18 ((120 : Int32) * p1) e17.1).bind fun v19 =>
  (aw_wh (σ := Int32 × Int32 × aw_W) (τ := Int32 × Int32 × aw_W) (fun s20 =>
    if s20.2.1 < 0 then
      some (.inr (s20.1, s20.2.1, s20.2.2))
    else
      (aw_gR s20.2.2 o 7 8).bind fun v21 =>
      (aw_sI s20.2.2 v21 1 s20.1 (((aj_lshr v19 ((8 : Int32) * s20.2.1)) &&& (255 : Int64)).toInt32)).bind fun v22 =>
      some (.inl (s20.1 + 1, s20.2.1 + (-1), v22))) (e17.1, (3 : Int32), e17.2.2)).bind fun e23 =>
  (aw_gR e23.2.2 o 7 7).bind fun v24 =>
  (aw_sI e23.2.2 v24 1 p1 (e23.1 - ((120 : Int32) * p1))).bind fun v25 =>
  (aw_gR v25 o 7 6).bind fun v26 =>
  (aw_sI v25 v26 3 p1 (1 : Int32)).bind fun v27 =>
  some v27
abbrev rm_M_makeHint : Room := { frames := 2, cells := 0, slots := 0, locals := 50 }
set_option maxRecDepth 100000 in
set_option maxHeartbeats 4000000 in
theorem c_M_makeHint (l : Launch) (hl : l.stackTraces = false) (D : va_G) (dA : Nat → ClassId) (base : Nat) (w : aw_W) (o : Option Nat) (p1 : Int32) (r : aw_W) (hm : f_M_makeHint w o p1 = some r) : aj_Ct l D dA base m_M_makeHint rm_M_makeHint [aRf o, aI p1] w (fun v w' => none = v ∧ r = w') := by
  refine aj_enter hl (by decide) (Nat.le_of_ble_eq_true rfl) ?_
  intro Γ G E
  unfold f_M_makeHint at hm
  refine j_bipush (v := 120) G d_M_makeHint_0 (by decide) ?_
  refine j_iload_n G d_M_makeHint_2 rfl ?_
  refine j_imul G d_M_makeHint_3 ?_
  refine j_istore_n G d_M_makeHint_4 (by decide) ?_
  refine j_iload_n G d_M_makeHint_5 rfl ?_
  refine j_istore_n G d_M_makeHint_6 (by decide) ?_
  refine j_iconst (v := 0) G d_M_makeHint_7 (by decide) ?_
  refine j_istore G d_M_makeHint_8 (by decide) ?_
  obtain ⟨e1, he1, ho1⟩ := Option.bind_eq_some_iff.mp hm
  clear hm
  refine j_lv [(0, aRf o), (1, aI p1), (2, aI ((120 : Int32) * p1)), (3, aI ((120 : Int32) * p1)), (4, aI (0 : Int32))] rfl ?_
  refine aw_wh_elim (fun (s : Int32 × Int32 × aw_W) => aj_J Γ 7 (0, 0) 10 [(0, aRf o), (1, aI p1), (2, aI ((120 : Int32) * p1)), (3, aI s.1), (4, aI s.2.1)] [] s.2.2) ?_ he1
  intro s1 x1 hm hin1 hout1
  try dsimp only at hm ⊢
  refine j_iload G d_M_makeHint_10 rfl ?_
  refine j_aload_n G d_M_makeHint_12 rfl ?_
  obtain ⟨v2, hv2, hm⟩ := Option.bind_eq_some_iff.mp hm
  refine j_gR G d_M_makeHint_13 fl_M_32 hv2 ?_
  refine j_iload_n G d_M_makeHint_16 rfl ?_
  obtain ⟨v3, hv3, hm⟩ := Option.bind_eq_some_iff.mp hm
  refine j_iald G d_M_makeHint_17 hv3 ?_
  refine j_icmp_ge (tgt := 112) G d_M_makeHint_18 rfl (fun hc => ?_) (fun hc => ?_)
  · rw [if_pos hc] at hm
    have q1 := hout1 _ (Option.some.inj hm).symm
    clear hin1 hout1
    subst q1
    clear hm
    have hm := ho1
    clear ho1
    try dsimp only at hm
    refine j_aload_n G d_M_makeHint_112 rfl ?_
    obtain ⟨v4, hv4, hm⟩ := Option.bind_eq_some_iff.mp hm
    refine j_gR G d_M_makeHint_113 fl_M_29 hv4 ?_
    refine j_iload_n G d_M_makeHint_116 rfl ?_
    refine j_iload_n G d_M_makeHint_117 rfl ?_
    obtain ⟨v5, hv5, hm⟩ := Option.bind_eq_some_iff.mp hm
    refine j_callS (As := [aRf v4, aI ((120 : Int32) * p1), aI s1.1]) G d_M_makeHint_118 (c_M_sumOf _ G.off _ _ _ _ _ _ _ _ hv5) mw_M_sumOf ms_M_sumOf lk_M_128 rfl rfl (Nat.le_of_ble_eq_true rfl) ⟨by decide, by decide⟩ ⟨by decide, by decide⟩ (fun v9 w9 hp => ?_)
    obtain ⟨rfl, rfl⟩ := hp
    refine j_lstore G d_M_makeHint_121 (by decide) ?_
    refine j_iconst (v := 3) G d_M_makeHint_123 (by decide) ?_
    refine j_istore G d_M_makeHint_124 (by decide) ?_
    obtain ⟨e6, he6, ho6⟩ := Option.bind_eq_some_iff.mp hm
    clear hm
    refine j_lv [(0, aRf o), (1, aI p1), (2, aI ((120 : Int32) * p1)), (3, aI s1.1), (4, aL v5), (6, aI (3 : Int32))] rfl ?_
    refine aw_wh_elim (fun (s : Int32 × Int32 × aw_W) => aj_J Γ 7 (0, 0) 126 [(0, aRf o), (1, aI p1), (2, aI ((120 : Int32) * p1)), (3, aI s.1), (4, aL v5), (6, aI s.2.1)] [] s.2.2) ?_ he6
    intro s6 x6 hm hin6 hout6
    try dsimp only at hm ⊢
    refine j_iload G d_M_makeHint_126 rfl ?_
    refine j_if_lt (tgt := 159) G d_M_makeHint_128 rfl (fun hc => ?_) (fun hc => ?_)
    · rw [if_pos hc] at hm
      have q6 := hout6 _ (Option.some.inj hm).symm
      clear hin6 hout6
      subst q6
      clear hm
      have hm := ho6
      clear ho6
      try dsimp only at hm
      refine j_aload_n G d_M_makeHint_159 rfl ?_
      obtain ⟨v7, hv7, hm⟩ := Option.bind_eq_some_iff.mp hm
      refine j_gR G d_M_makeHint_160 fl_M_26 hv7 ?_
      refine j_iload_n G d_M_makeHint_163 rfl ?_
      refine j_iload_n G d_M_makeHint_164 rfl ?_
      refine j_iload_n G d_M_makeHint_165 rfl ?_
      refine j_isub G d_M_makeHint_166 ?_
      obtain ⟨v8, hv8, hm⟩ := Option.bind_eq_some_iff.mp hm
      refine j_iast G d_M_makeHint_167 hv8 ?_
      refine j_aload_n G d_M_makeHint_168 rfl ?_
      obtain ⟨v9, hv9, hm⟩ := Option.bind_eq_some_iff.mp hm
      refine j_gR G d_M_makeHint_169 fl_M_22 hv9 ?_
      refine j_iload_n G d_M_makeHint_172 rfl ?_
      refine j_iconst (v := 1) G d_M_makeHint_173 (by decide) ?_
      obtain ⟨v10, hv10, hm⟩ := Option.bind_eq_some_iff.mp hm
      refine j_zast G d_M_makeHint_174 (by decide) hv10 ?_
      obtain rfl := Option.some.inj hm
      exact j_vret G E d_M_makeHint_175 ⟨by decide, by decide⟩ ⟨rfl, rfl⟩
    · rw [if_neg hc] at hm
      refine j_aload_n G d_M_makeHint_131 rfl ?_
      obtain ⟨v11, hv11, hm⟩ := Option.bind_eq_some_iff.mp hm
      refine j_gR G d_M_makeHint_132 fl_M_29 hv11 ?_
      refine j_iload_n G d_M_makeHint_135 rfl ?_
      refine j_lload G d_M_makeHint_136 rfl ?_
      refine j_bipush (v := 8) G d_M_makeHint_138 (by decide) ?_
      refine j_iload G d_M_makeHint_140 rfl ?_
      refine j_imul G d_M_makeHint_142 ?_
      refine j_lshr G d_M_makeHint_143 ?_
      refine j_ldc2 G d_M_makeHint_144 wd_4_138 ?_
      refine j_land G d_M_makeHint_147 ?_
      refine j_l2i G d_M_makeHint_148 ?_
      obtain ⟨v12, hv12, hm⟩ := Option.bind_eq_some_iff.mp hm
      refine j_iast G d_M_makeHint_149 hv12 ?_
      refine j_iinc (v := s6.1 + 1) G d_M_makeHint_150 rfl (by first | rfl | decide) (by decide) ?_
      refine j_iinc (v := s6.2.1 + (-1)) G d_M_makeHint_153 rfl (by first | rfl | decide) (by decide) ?_
      refine j_goto (tgt := 126) G d_M_makeHint_156 rfl ?_
      refine j_lv [(0, aRf o), (1, aI p1), (2, aI ((120 : Int32) * p1)), (3, aI (s6.1 + 1)), (4, aL v5), (6, aI (s6.2.1 + (-1)))] rfl ?_
      have z9 := hin6 _ (Option.some.inj hm).symm
      exact z9
  · rw [if_neg hc] at hm
    refine j_aload_n G d_M_makeHint_21 rfl ?_
    obtain ⟨v13, hv13, hm⟩ := Option.bind_eq_some_iff.mp hm
    refine j_gR G d_M_makeHint_22 fl_M_35 hv13 ?_
    refine j_bipush (v := 12) G d_M_makeHint_25 (by decide) ?_
    refine j_iload_n G d_M_makeHint_27 rfl ?_
    refine j_imul G d_M_makeHint_28 ?_
    refine j_iload G d_M_makeHint_29 rfl ?_
    refine j_iadd G d_M_makeHint_31 ?_
    obtain ⟨v14, hv14, hm⟩ := Option.bind_eq_some_iff.mp hm
    refine j_iald G d_M_makeHint_32 hv14 ?_
    refine j_istore G d_M_makeHint_33 (by decide) ?_
    refine j_iconst (v := 4) G d_M_makeHint_35 (by decide) ?_
    refine j_istore G d_M_makeHint_36 (by decide) ?_
    obtain ⟨e15, he15, ho15⟩ := Option.bind_eq_some_iff.mp hm
    clear hm
    refine j_lv [(0, aRf o), (1, aI p1), (2, aI ((120 : Int32) * p1)), (3, aI s1.1), (4, aI s1.2.1), (5, aI v14), (6, aI (4 : Int32))] rfl ?_
    refine aw_wh_elim (fun (s : Int32 × Int32 × aw_W) => aj_J Γ 7 (0, 0) 38 [(0, aRf o), (1, aI p1), (2, aI ((120 : Int32) * p1)), (3, aI s.1), (4, aI s1.2.1), (5, aI v14), (6, aI s.2.1)] [] s.2.2) ?_ he15
    intro s15 x15 hm hin15 hout15
    try dsimp only at hm ⊢
    refine j_iload G d_M_makeHint_38 rfl ?_
    refine j_bipush (v := 8) G d_M_makeHint_40 (by decide) ?_
    refine j_aload_n G d_M_makeHint_42 rfl ?_
    obtain ⟨v16, hv16, hm⟩ := Option.bind_eq_some_iff.mp hm
    refine j_gR G d_M_makeHint_43 fl_M_38 hv16 ?_
    refine j_bipush (v := 12) G d_M_makeHint_46 (by decide) ?_
    refine j_iload_n G d_M_makeHint_48 rfl ?_
    refine j_imul G d_M_makeHint_49 ?_
    refine j_iload G d_M_makeHint_50 rfl ?_
    refine j_iadd G d_M_makeHint_52 ?_
    obtain ⟨v17, hv17, hm⟩ := Option.bind_eq_some_iff.mp hm
    refine j_iald G d_M_makeHint_53 hv17 ?_
    refine j_iadd G d_M_makeHint_54 ?_
    refine j_icmp_ge (tgt := 106) G d_M_makeHint_55 rfl (fun hc => ?_) (fun hc => ?_)
    · rw [if_pos hc] at hm
      have q15 := hout15 _ (Option.some.inj hm).symm
      clear hin15 hout15
      subst q15
      clear hm
      have hm := ho15
      clear ho15
      try dsimp only at hm
      refine j_iinc (v := s1.2.1 + 1) G d_M_makeHint_106 rfl (by first | rfl | decide) (by decide) ?_
      refine j_goto (tgt := 10) G d_M_makeHint_109 rfl ?_
      refine j_lv [(0, aRf o), (1, aI p1), (2, aI ((120 : Int32) * p1)), (3, aI s15.1), (4, aI (s1.2.1 + 1))] rfl ?_
      have z9 := hin1 _ (Option.some.inj hm).symm
      exact z9
    · rw [if_neg hc] at hm
      refine j_iload G d_M_makeHint_58 rfl ?_
      refine j_bipush (v := 8) G d_M_makeHint_60 (by decide) ?_
      obtain ⟨j18, hj18, ho18⟩ := Option.bind_eq_some_iff.mp hm
      clear hm
      have hJ18 : aj_J Γ 7 (0, 0) 76 [(0, aRf o), (1, aI p1), (2, aI ((120 : Int32) * p1)), (3, aI j18.1), (4, aI s1.2.1), (5, aI v14), (6, aI s15.2.1)] [] j18.2 := by
        clear hj18
        have hm := ho18
        clear ho18
        refine j_aload_n G d_M_makeHint_76 rfl ?_
        obtain ⟨v19, hv19, hm⟩ := Option.bind_eq_some_iff.mp hm
        refine j_gR G d_M_makeHint_77 fl_M_29 hv19 ?_
        refine j_iload_n G d_M_makeHint_80 rfl ?_
        refine j_aload_n G d_M_makeHint_81 rfl ?_
        obtain ⟨v20, hv20, hm⟩ := Option.bind_eq_some_iff.mp hm
        refine j_gR G d_M_makeHint_82 fl_M_19 hv20 ?_
        refine j_bipush (v := 100) G d_M_makeHint_85 (by decide) ?_
        refine j_iload_n G d_M_makeHint_87 rfl ?_
        refine j_imul G d_M_makeHint_88 ?_
        refine j_iload G d_M_makeHint_89 rfl ?_
        refine j_iadd G d_M_makeHint_91 ?_
        refine j_iload G d_M_makeHint_92 rfl ?_
        refine j_iadd G d_M_makeHint_94 ?_
        obtain ⟨v21, hv21, hm⟩ := Option.bind_eq_some_iff.mp hm
        refine j_iald G d_M_makeHint_95 hv21 ?_
        obtain ⟨v22, hv22, hm⟩ := Option.bind_eq_some_iff.mp hm
        refine j_iast G d_M_makeHint_96 hv22 ?_
        refine j_iinc (v := j18.1 + 1) G d_M_makeHint_97 rfl (by first | rfl | decide) (by decide) ?_
        refine j_iinc (v := s15.2.1 + 1) G d_M_makeHint_100 rfl (by first | rfl | decide) (by decide) ?_
        refine j_goto (tgt := 38) G d_M_makeHint_103 rfl ?_
        refine j_lv [(0, aRf o), (1, aI p1), (2, aI ((120 : Int32) * p1)), (3, aI (j18.1 + 1)), (4, aI s1.2.1), (5, aI v14), (6, aI (s15.2.1 + 1))] rfl ?_
        have z9 := hin15 _ (Option.some.inj hm).symm
        exact z9
      clear ho18
      have hm := hj18
      clear hj18
      refine j_icmp_ne (tgt := 76) G d_M_makeHint_62 rfl (fun hc => ?_) (fun hc => ?_)
      · rw [if_neg hc] at hm
        obtain rfl := Option.some.inj hm
        refine j_lv [(0, aRf o), (1, aI p1), (2, aI ((120 : Int32) * p1)), (3, aI s15.1), (4, aI s1.2.1), (5, aI v14), (6, aI s15.2.1)] rfl ?_
        exact hJ18
      · rw [if_pos hc] at hm
        refine j_aload_n G d_M_makeHint_65 rfl ?_
        obtain ⟨v23, hv23, hm⟩ := Option.bind_eq_some_iff.mp hm
        refine j_gR G d_M_makeHint_66 fl_M_29 hv23 ?_
        refine j_iload_n G d_M_makeHint_69 rfl ?_
        refine j_iload G d_M_makeHint_70 rfl ?_
        obtain ⟨v24, hv24, hm⟩ := Option.bind_eq_some_iff.mp hm
        refine j_iast G d_M_makeHint_72 hv24 ?_
        refine j_iinc (v := s15.1 + 1) G d_M_makeHint_73 rfl (by first | rfl | decide) (by decide) ?_
        obtain rfl := Option.some.inj hm
        refine j_lv [(0, aRf o), (1, aI p1), (2, aI ((120 : Int32) * p1)), (3, aI (s15.1 + 1)), (4, aI s1.2.1), (5, aI v14), (6, aI s15.2.1)] rfl ?_
        exact hJ18
noncomputable def f_M_publish (w : aw_W) (o : Option Nat) : Option (aw_W) :=
  (aw_wh (σ := Int32 × aw_W) (τ := Int32 × aw_W) (fun s1 =>
    (aw_gI s1.2 o 7 28).bind fun v2 =>
    if v2 ≤ s1.1 then
      some (.inr (s1.1, s1.2))
    else
      (aw_wh (σ := Int32 × aw_W) (τ := Int32 × aw_W) (fun s3 =>
        (aw_gR s3.2 o 7 9).bind fun v4 =>
        (aw_aI s3.2 v4 1 ((6 : Int32) + s1.1)).bind fun v5 =>
        if v5 ≤ s3.1 then
          some (.inr (s3.1, s3.2))
        else
          (aw_gR s3.2 o 7 13).bind fun v6 =>
          (aw_aI s3.2 v6 1 (((12 : Int32) * ((6 : Int32) + s1.1)) + s3.1)).bind fun v7 =>
          (aw_gR s3.2 o 7 14).bind fun v8 =>
          (aw_aI s3.2 v8 1 (((12 : Int32) * ((6 : Int32) + s1.1)) + s3.1)).bind fun v9 =>
          (aw_obj s3.2 o 7).bind fun v10 =>
          (f_M_live s3.2 o v7 v9).bind fun v11 =>
          (if v11 < 0 then
              some s3.2
            else
              (aw_gR s3.2 o 7 18).bind fun v12 =>
              (aw_gR s3.2 o 7 2).bind fun v13 =>
              (aw_aI s3.2 v13 1 s1.1).bind fun v14 =>
              (aw_sI s3.2 v12 1 v11 ((100000 : Int32) + v14)).bind fun v15 =>
              (aw_gR v15 o 7 19).bind fun v16 =>
              (aw_sI v15 v16 1 v11 s3.1).bind fun v17 =>
              some v17 : Option (aw_W)).bind fun j18 =>
          some (.inl (s3.1 + 1, j18))) ((0 : Int32), s1.2)).bind fun e19 =>
      some (.inl (s1.1 + 1, e19.2))) ((0 : Int32), w)).bind fun e20 =>
  (aw_wh (σ := Int32 × aw_W) (τ := Int32 × aw_W) (fun s21 =>
    (aw_gI s21.2 o 7 15).bind fun v22 =>
    if v22 ≤ s21.1 then
      some (.inr (s21.1, s21.2))
    else
      (aw_gR s21.2 o 7 18).bind fun v23 =>
      (aw_aI s21.2 v23 1 s21.1).bind fun v24 =>
      (if v24 < (100000 : Int32) then
          some s21.2
        else
          (aw_gR s21.2 o 7 18).bind fun v25 =>
          (aw_gR s21.2 o 7 18).bind fun v26 =>
          (aw_aI s21.2 v26 1 s21.1).bind fun v27 =>
          (aw_sI s21.2 v25 1 s21.1 (v27 - (100000 : Int32))).bind fun v28 =>
          some v28 : Option (aw_W)).bind fun j29 =>
      some (.inl (s21.1 + 1, j29))) ((0 : Int32), e20.2)).bind fun e30 =>
  (aw_wh (σ := Int32 × aw_W) (τ := Int32 × aw_W) (fun s31 =>
    (aw_gI s31.2 o 7 28).bind fun v32 =>
    if v32 ≤ s31.1 then
      some (.inr (s31.1, s31.2))
    else
      (aw_gR s31.2 o 7 2).bind fun v33 =>
      (aw_gR s31.2 o 7 2).bind fun v34 =>
      (aw_aI s31.2 v34 1 s31.1).bind fun v35 =>
      (aw_sI s31.2 v33 1 ((6 : Int32) + s31.1) v35).bind fun v36 =>
      (aw_gR v36 o 7 4).bind fun v37 =>
      (aw_gR v36 o 7 3).bind fun v38 =>
      (aw_aI v36 v38 1 ((6 : Int32) + s31.1)).bind fun v39 =>
      (aw_sI v36 v37 1 ((6 : Int32) + s31.1) v39).bind fun v40 =>
      (aw_obj v40 o 7).bind fun v41 =>
      (f_M_makeHint v40 o ((6 : Int32) + s31.1)).bind fun v42 =>
      (aw_obj v42 o 7).bind fun v43 =>
      (f_M_copyRow v42 o ((6 : Int32) + s31.1) s31.1).bind fun v44 =>
      some (.inl (s31.1 + 1, v44))) ((0 : Int32), e30.2)).bind fun e45 =>
  (aw_gI e45.2 o 7 25).bind fun v46 =>
  (aw_gI e45.2 o 7 28).bind fun v47 =>
  (aw_gI e45.2 o 7 25).bind fun v48 =>
  (aw_wh (σ := Int32 × aw_W) (τ := Int32 × aw_W) (fun s49 =>
    (aw_gI s49.2 o 7 1).bind fun v50 =>
    if v50 ≤ s49.1 then
      some (.inr (s49.1, s49.2))
    else
      if (v46 - v47) ≤ 0 then
        some (.inr (s49.1, s49.2))
      else
        (aw_obj s49.2 o 7).bind fun v51 =>
        (f_M_copyRow s49.2 o s49.1 (s49.1 - (v46 - v47))).bind fun v52 =>
        some (.inl (s49.1 + 1, v52))) (v48, e45.2)).bind fun e53 =>
  (aw_gI e53.2 o 7 1).bind fun v54 =>
  (aw_pV e53.2 o 7 1 (.int (v54 - (v46 - v47)))).bind fun v55 =>
  (aw_pV v55 o 7 24 (.int (0 : Int32))).bind fun v56 =>
  some v56
abbrev rm_M_publish : Room := { frames := 3, cells := 0, slots := 0, locals := 76 }
set_option maxRecDepth 100000 in
set_option maxHeartbeats 4000000 in
theorem c_M_publish (l : Launch) (hl : l.stackTraces = false) (D : va_G) (dA : Nat → ClassId) (base : Nat) (w : aw_W) (o : Option Nat) (r : aw_W) (hm : f_M_publish w o = some r) : aj_Ct l D dA base m_M_publish rm_M_publish [aRf o] w (fun v w' => none = v ∧ r = w') := by
  refine aj_enter hl (by decide) (Nat.le_of_ble_eq_true rfl) ?_
  intro Γ G E
  unfold f_M_publish at hm
  refine j_iconst (v := 0) G d_M_publish_0 (by decide) ?_
  refine j_istore_n G d_M_publish_1 (by decide) ?_
  obtain ⟨e1, he1, ho1⟩ := Option.bind_eq_some_iff.mp hm
  clear hm
  refine j_lv [(0, aRf o), (1, aI (0 : Int32))] rfl ?_
  refine aw_wh_elim (fun (s : Int32 × aw_W) => aj_J Γ 5 (0, 0) 2 [(0, aRf o), (1, aI s.1)] [] s.2) ?_ he1
  intro s1 x1 hm hin1 hout1
  try dsimp only at hm ⊢
  refine j_iload_n G d_M_publish_2 rfl ?_
  refine j_aload_n G d_M_publish_3 rfl ?_
  obtain ⟨v2, hv2, hm⟩ := Option.bind_eq_some_iff.mp hm
  refine j_gI G d_M_publish_4 fl_M_202 hv2 ?_
  refine j_icmp_ge (tgt := 96) G d_M_publish_7 rfl (fun hc => ?_) (fun hc => ?_)
  · rw [if_pos hc] at hm
    have q1 := hout1 _ (Option.some.inj hm).symm
    clear hin1 hout1
    subst q1
    clear hm
    have hm := ho1
    clear ho1
    try dsimp only at hm
    refine j_iconst (v := 0) G d_M_publish_96 (by decide) ?_
    refine j_istore_n G d_M_publish_97 (by decide) ?_
    obtain ⟨e3, he3, ho3⟩ := Option.bind_eq_some_iff.mp hm
    clear hm
    refine j_lv [(0, aRf o), (1, aI (0 : Int32))] rfl ?_
    refine aw_wh_elim (fun (s : Int32 × aw_W) => aj_J Γ 5 (0, 0) 98 [(0, aRf o), (1, aI s.1)] [] s.2) ?_ he3
    intro s3 x3 hm hin3 hout3
    try dsimp only at hm ⊢
    refine j_iload_n G d_M_publish_98 rfl ?_
    refine j_aload_n G d_M_publish_99 rfl ?_
    obtain ⟨v4, hv4, hm⟩ := Option.bind_eq_some_iff.mp hm
    refine j_gI G d_M_publish_100 fl_M_85 hv4 ?_
    refine j_icmp_ge (tgt := 138) G d_M_publish_103 rfl (fun hc => ?_) (fun hc => ?_)
    · rw [if_pos hc] at hm
      have q3 := hout3 _ (Option.some.inj hm).symm
      clear hin3 hout3
      subst q3
      clear hm
      have hm := ho3
      clear ho3
      try dsimp only at hm
      refine j_iconst (v := 0) G d_M_publish_138 (by decide) ?_
      refine j_istore_n G d_M_publish_139 (by decide) ?_
      obtain ⟨e5, he5, ho5⟩ := Option.bind_eq_some_iff.mp hm
      clear hm
      refine j_lv [(0, aRf o), (1, aI (0 : Int32))] rfl ?_
      refine aw_wh_elim (fun (s : Int32 × aw_W) => aj_J Γ 5 (0, 0) 140 [(0, aRf o), (1, aI s.1)] [] s.2) ?_ he5
      intro s5 x5 hm hin5 hout5
      try dsimp only at hm ⊢
      refine j_iload_n G d_M_publish_140 rfl ?_
      refine j_aload_n G d_M_publish_141 rfl ?_
      obtain ⟨v6, hv6, hm⟩ := Option.bind_eq_some_iff.mp hm
      refine j_gI G d_M_publish_142 fl_M_202 hv6 ?_
      refine j_icmp_ge (tgt := 194) G d_M_publish_145 rfl (fun hc => ?_) (fun hc => ?_)
      · rw [if_pos hc] at hm
        have q5 := hout5 _ (Option.some.inj hm).symm
        clear hin5 hout5
        subst q5
        clear hm
        have hm := ho5
        clear ho5
        try dsimp only at hm
        refine j_aload_n G d_M_publish_194 rfl ?_
        obtain ⟨v7, hv7, hm⟩ := Option.bind_eq_some_iff.mp hm
        refine j_gI G d_M_publish_195 fl_M_193 hv7 ?_
        refine j_aload_n G d_M_publish_198 rfl ?_
        obtain ⟨v8, hv8, hm⟩ := Option.bind_eq_some_iff.mp hm
        refine j_gI G d_M_publish_199 fl_M_202 hv8 ?_
        refine j_isub G d_M_publish_202 ?_
        refine j_istore_n G d_M_publish_203 (by decide) ?_
        refine j_aload_n G d_M_publish_204 rfl ?_
        obtain ⟨v9, hv9, hm⟩ := Option.bind_eq_some_iff.mp hm
        refine j_gI G d_M_publish_205 fl_M_193 hv9 ?_
        refine j_istore_n G d_M_publish_208 (by decide) ?_
        obtain ⟨e10, he10, ho10⟩ := Option.bind_eq_some_iff.mp hm
        clear hm
        refine j_lv [(0, aRf o), (1, aI (v7 - v8)), (2, aI v9)] rfl ?_
        refine aw_wh_elim (fun (s : Int32 × aw_W) => aj_J Γ 5 (0, 0) 209 [(0, aRf o), (1, aI (v7 - v8)), (2, aI s.1)] [] s.2) ?_ he10
        intro s10 x10 hm hin10 hout10
        try dsimp only at hm ⊢
        refine j_iload_n G d_M_publish_209 rfl ?_
        refine j_aload_n G d_M_publish_210 rfl ?_
        obtain ⟨v11, hv11, hm⟩ := Option.bind_eq_some_iff.mp hm
        refine j_gI G d_M_publish_211 fl_M_99 hv11 ?_
        refine j_icmp_ge (tgt := 235) G d_M_publish_214 rfl (fun hc => ?_) (fun hc => ?_)
        · rw [if_pos hc] at hm
          have q10 := hout10 _ (Option.some.inj hm).symm
          clear hin10 hout10
          subst q10
          clear hm
          have hm := ho10
          clear ho10
          try dsimp only at hm
          refine j_aload_n G d_M_publish_235 rfl ?_
          refine j_aload_n G d_M_publish_236 rfl ?_
          obtain ⟨v12, hv12, hm⟩ := Option.bind_eq_some_iff.mp hm
          refine j_gI G d_M_publish_237 fl_M_99 hv12 ?_
          refine j_iload_n G d_M_publish_240 rfl ?_
          refine j_isub G d_M_publish_241 ?_
          obtain ⟨v13, hv13, hm⟩ := Option.bind_eq_some_iff.mp hm
          refine j_pV (ty := aY_M 1) G d_M_publish_242 fl_M_99 ac_M (aw_T_of_M 1 (by decide) rfl) rfl rfl hv13 ?_
          refine j_aload_n G d_M_publish_245 rfl ?_
          refine j_iconst (v := 0) G d_M_publish_246 (by decide) ?_
          obtain ⟨v14, hv14, hm⟩ := Option.bind_eq_some_iff.mp hm
          refine j_pV (ty := aY_M 24) G d_M_publish_247 fl_M_175 ac_M (aw_T_of_M 24 (by decide) rfl) (by decide) (by decide) hv14 ?_
          obtain rfl := Option.some.inj hm
          exact j_vret G E d_M_publish_250 ⟨by decide, by decide⟩ ⟨rfl, rfl⟩
        · rw [if_neg hc] at hm
          refine j_iload_n G d_M_publish_217 rfl ?_
          refine j_if_le (tgt := 235) G d_M_publish_218 rfl (fun hc => ?_) (fun hc => ?_)
          · rw [if_pos hc] at hm
            have q10 := hout10 _ (Option.some.inj hm).symm
            clear hin10 hout10
            subst q10
            clear hm
            have hm := ho10
            clear ho10
            try dsimp only at hm
            refine j_aload_n G d_M_publish_235 rfl ?_
            refine j_aload_n G d_M_publish_236 rfl ?_
            obtain ⟨v15, hv15, hm⟩ := Option.bind_eq_some_iff.mp hm
            refine j_gI G d_M_publish_237 fl_M_99 hv15 ?_
            refine j_iload_n G d_M_publish_240 rfl ?_
            refine j_isub G d_M_publish_241 ?_
            obtain ⟨v16, hv16, hm⟩ := Option.bind_eq_some_iff.mp hm
            refine j_pV (ty := aY_M 1) G d_M_publish_242 fl_M_99 ac_M (aw_T_of_M 1 (by decide) rfl) rfl rfl hv16 ?_
            refine j_aload_n G d_M_publish_245 rfl ?_
            refine j_iconst (v := 0) G d_M_publish_246 (by decide) ?_
            obtain ⟨v17, hv17, hm⟩ := Option.bind_eq_some_iff.mp hm
            refine j_pV (ty := aY_M 24) G d_M_publish_247 fl_M_175 ac_M (aw_T_of_M 24 (by decide) rfl) (by decide) (by decide) hv17 ?_
            obtain rfl := Option.some.inj hm
            exact j_vret G E d_M_publish_250 ⟨by decide, by decide⟩ ⟨rfl, rfl⟩
          · rw [if_neg hc] at hm
            refine j_aload_n G d_M_publish_221 rfl ?_
            refine j_iload_n G d_M_publish_222 rfl ?_
            refine j_iload_n G d_M_publish_223 rfl ?_
            refine j_iload_n G d_M_publish_224 rfl ?_
            refine j_isub G d_M_publish_225 ?_
            obtain ⟨v18, hv18, hm⟩ := Option.bind_eq_some_iff.mp hm
            obtain ⟨v19, hv19, hm⟩ := Option.bind_eq_some_iff.mp hm
            refine j_callV (As := [aI s10.1, aI (s10.1 - (v7 - v8))]) G d_M_publish_226 (c_M_copyRow _ G.off _ _ _ _ _ _ _ _ hv19) mw_M_copyRow mi_M_copyRow lk_M_212 rfl hv18 rfl rfl (Nat.le_of_ble_eq_true rfl) ⟨by decide, by decide⟩ ⟨by decide, by decide⟩ (fun v9 w9 hp => ?_)
            obtain ⟨rfl, rfl⟩ := hp
            refine j_iinc (v := s10.1 + 1) G d_M_publish_229 rfl (by first | rfl | decide) (by decide) ?_
            refine j_goto (tgt := 209) G d_M_publish_232 rfl ?_
            refine j_lv [(0, aRf o), (1, aI (v7 - v8)), (2, aI (s10.1 + 1))] rfl ?_
            have z9 := hin10 _ (Option.some.inj hm).symm
            exact z9
      · rw [if_neg hc] at hm
        refine j_bipush (v := 6) G d_M_publish_148 (by decide) ?_
        refine j_iload_n G d_M_publish_150 rfl ?_
        refine j_iadd G d_M_publish_151 ?_
        refine j_istore_n G d_M_publish_152 (by decide) ?_
        refine j_aload_n G d_M_publish_153 rfl ?_
        obtain ⟨v20, hv20, hm⟩ := Option.bind_eq_some_iff.mp hm
        refine j_gR G d_M_publish_154 fl_M_7 hv20 ?_
        refine j_iload_n G d_M_publish_157 rfl ?_
        refine j_aload_n G d_M_publish_158 rfl ?_
        obtain ⟨v21, hv21, hm⟩ := Option.bind_eq_some_iff.mp hm
        refine j_gR G d_M_publish_159 fl_M_7 hv21 ?_
        refine j_iload_n G d_M_publish_162 rfl ?_
        obtain ⟨v22, hv22, hm⟩ := Option.bind_eq_some_iff.mp hm
        refine j_iald G d_M_publish_163 hv22 ?_
        obtain ⟨v23, hv23, hm⟩ := Option.bind_eq_some_iff.mp hm
        refine j_iast G d_M_publish_164 hv23 ?_
        refine j_aload_n G d_M_publish_165 rfl ?_
        obtain ⟨v24, hv24, hm⟩ := Option.bind_eq_some_iff.mp hm
        refine j_gR G d_M_publish_166 fl_M_16 hv24 ?_
        refine j_iload_n G d_M_publish_169 rfl ?_
        refine j_aload_n G d_M_publish_170 rfl ?_
        obtain ⟨v25, hv25, hm⟩ := Option.bind_eq_some_iff.mp hm
        refine j_gR G d_M_publish_171 fl_M_13 hv25 ?_
        refine j_iload_n G d_M_publish_174 rfl ?_
        obtain ⟨v26, hv26, hm⟩ := Option.bind_eq_some_iff.mp hm
        refine j_iald G d_M_publish_175 hv26 ?_
        obtain ⟨v27, hv27, hm⟩ := Option.bind_eq_some_iff.mp hm
        refine j_iast G d_M_publish_176 hv27 ?_
        refine j_aload_n G d_M_publish_177 rfl ?_
        refine j_iload_n G d_M_publish_178 rfl ?_
        obtain ⟨v28, hv28, hm⟩ := Option.bind_eq_some_iff.mp hm
        obtain ⟨v29, hv29, hm⟩ := Option.bind_eq_some_iff.mp hm
        refine j_callV (As := [aI ((6 : Int32) + s5.1)]) G d_M_publish_179 (c_M_makeHint _ G.off _ _ _ _ _ _ _ hv29) mw_M_makeHint mi_M_makeHint lk_M_209 rfl hv28 rfl rfl (Nat.le_of_ble_eq_true rfl) ⟨by decide, by decide⟩ ⟨by decide, by decide⟩ (fun v9 w9 hp => ?_)
        obtain ⟨rfl, rfl⟩ := hp
        refine j_aload_n G d_M_publish_182 rfl ?_
        refine j_iload_n G d_M_publish_183 rfl ?_
        refine j_iload_n G d_M_publish_184 rfl ?_
        obtain ⟨v30, hv30, hm⟩ := Option.bind_eq_some_iff.mp hm
        obtain ⟨v31, hv31, hm⟩ := Option.bind_eq_some_iff.mp hm
        refine j_callV (As := [aI ((6 : Int32) + s5.1), aI s5.1]) G d_M_publish_185 (c_M_copyRow _ G.off _ _ _ _ _ _ _ _ hv31) mw_M_copyRow mi_M_copyRow lk_M_212 rfl hv30 rfl rfl (Nat.le_of_ble_eq_true rfl) ⟨by decide, by decide⟩ ⟨by decide, by decide⟩ (fun v9 w9 hp => ?_)
        obtain ⟨rfl, rfl⟩ := hp
        refine j_iinc (v := s5.1 + 1) G d_M_publish_188 rfl (by first | rfl | decide) (by decide) ?_
        refine j_goto (tgt := 140) G d_M_publish_191 rfl ?_
        refine j_lv [(0, aRf o), (1, aI (s5.1 + 1))] rfl ?_
        have z9 := hin5 _ (Option.some.inj hm).symm
        exact z9
    · rw [if_neg hc] at hm
      refine j_aload_n G d_M_publish_106 rfl ?_
      obtain ⟨v32, hv32, hm⟩ := Option.bind_eq_some_iff.mp hm
      refine j_gR G d_M_publish_107 fl_M_57 hv32 ?_
      refine j_iload_n G d_M_publish_110 rfl ?_
      obtain ⟨v33, hv33, hm⟩ := Option.bind_eq_some_iff.mp hm
      refine j_iald G d_M_publish_111 hv33 ?_
      refine j_ldc G d_M_publish_112 wd_5_20 ?_
      obtain ⟨j34, hj34, ho34⟩ := Option.bind_eq_some_iff.mp hm
      clear hm
      have hJ34 : aj_J Γ 5 (0, 0) 132 [(0, aRf o), (1, aI s3.1)] [] j34 := by
        clear hj34
        have hm := ho34
        clear ho34
        refine j_iinc (v := s3.1 + 1) G d_M_publish_132 rfl (by first | rfl | decide) (by decide) ?_
        refine j_goto (tgt := 98) G d_M_publish_135 rfl ?_
        refine j_lv [(0, aRf o), (1, aI (s3.1 + 1))] rfl ?_
        have z9 := hin3 _ (Option.some.inj hm).symm
        exact z9
      clear ho34
      have hm := hj34
      clear hj34
      refine j_icmp_lt (tgt := 132) G d_M_publish_114 rfl (fun hc => ?_) (fun hc => ?_)
      · rw [if_pos hc] at hm
        obtain rfl := Option.some.inj hm
        refine j_lv [(0, aRf o), (1, aI s3.1)] rfl ?_
        exact hJ34
      · rw [if_neg hc] at hm
        refine j_aload_n G d_M_publish_117 rfl ?_
        obtain ⟨v35, hv35, hm⟩ := Option.bind_eq_some_iff.mp hm
        refine j_gR G d_M_publish_118 fl_M_57 hv35 ?_
        refine j_iload_n G d_M_publish_121 rfl ?_
        refine j_aload_n G d_M_publish_122 rfl ?_
        obtain ⟨v36, hv36, hm⟩ := Option.bind_eq_some_iff.mp hm
        refine j_gR G d_M_publish_123 fl_M_57 hv36 ?_
        refine j_iload_n G d_M_publish_126 rfl ?_
        obtain ⟨v37, hv37, hm⟩ := Option.bind_eq_some_iff.mp hm
        refine j_iald G d_M_publish_127 hv37 ?_
        refine j_ldc G d_M_publish_128 wd_5_20 ?_
        refine j_isub G d_M_publish_130 ?_
        obtain ⟨v38, hv38, hm⟩ := Option.bind_eq_some_iff.mp hm
        refine j_iast G d_M_publish_131 hv38 ?_
        obtain rfl := Option.some.inj hm
        refine j_lv [(0, aRf o), (1, aI s3.1)] rfl ?_
        exact hJ34
  · rw [if_neg hc] at hm
    refine j_bipush (v := 6) G d_M_publish_10 (by decide) ?_
    refine j_iload_n G d_M_publish_12 rfl ?_
    refine j_iadd G d_M_publish_13 ?_
    refine j_istore_n G d_M_publish_14 (by decide) ?_
    refine j_iconst (v := 0) G d_M_publish_15 (by decide) ?_
    refine j_istore_n G d_M_publish_16 (by decide) ?_
    obtain ⟨e39, he39, ho39⟩ := Option.bind_eq_some_iff.mp hm
    clear hm
    refine j_lv [(0, aRf o), (1, aI s1.1), (2, aI ((6 : Int32) + s1.1)), (3, aI (0 : Int32))] rfl ?_
    refine aw_wh_elim (fun (s : Int32 × aw_W) => aj_J Γ 5 (0, 0) 17 [(0, aRf o), (1, aI s1.1), (2, aI ((6 : Int32) + s1.1)), (3, aI s.1)] [] s.2) ?_ he39
    intro s39 x39 hm hin39 hout39
    try dsimp only at hm ⊢
    refine j_iload_n G d_M_publish_17 rfl ?_
    refine j_aload_n G d_M_publish_18 rfl ?_
    obtain ⟨v40, hv40, hm⟩ := Option.bind_eq_some_iff.mp hm
    refine j_gR G d_M_publish_19 fl_M_32 hv40 ?_
    refine j_iload_n G d_M_publish_22 rfl ?_
    obtain ⟨v41, hv41, hm⟩ := Option.bind_eq_some_iff.mp hm
    refine j_iald G d_M_publish_23 hv41 ?_
    refine j_icmp_ge (tgt := 90) G d_M_publish_24 rfl (fun hc => ?_) (fun hc => ?_)
    · rw [if_pos hc] at hm
      have q39 := hout39 _ (Option.some.inj hm).symm
      clear hin39 hout39
      subst q39
      clear hm
      have hm := ho39
      clear ho39
      try dsimp only at hm
      refine j_iinc (v := s1.1 + 1) G d_M_publish_90 rfl (by first | rfl | decide) (by decide) ?_
      refine j_goto (tgt := 2) G d_M_publish_93 rfl ?_
      refine j_lv [(0, aRf o), (1, aI (s1.1 + 1))] rfl ?_
      have z9 := hin1 _ (Option.some.inj hm).symm
      exact z9
    · rw [if_neg hc] at hm
      refine j_aload_n G d_M_publish_27 rfl ?_
      refine j_aload_n G d_M_publish_28 rfl ?_
      obtain ⟨v42, hv42, hm⟩ := Option.bind_eq_some_iff.mp hm
      refine j_gR G d_M_publish_29 fl_M_44 hv42 ?_
      refine j_bipush (v := 12) G d_M_publish_32 (by decide) ?_
      refine j_iload_n G d_M_publish_34 rfl ?_
      refine j_imul G d_M_publish_35 ?_
      refine j_iload_n G d_M_publish_36 rfl ?_
      refine j_iadd G d_M_publish_37 ?_
      obtain ⟨v43, hv43, hm⟩ := Option.bind_eq_some_iff.mp hm
      refine j_iald G d_M_publish_38 hv43 ?_
      refine j_aload_n G d_M_publish_39 rfl ?_
      obtain ⟨v44, hv44, hm⟩ := Option.bind_eq_some_iff.mp hm
      refine j_gR G d_M_publish_40 fl_M_47 hv44 ?_
      refine j_bipush (v := 12) G d_M_publish_43 (by decide) ?_
      refine j_iload_n G d_M_publish_45 rfl ?_
      refine j_imul G d_M_publish_46 ?_
      refine j_iload_n G d_M_publish_47 rfl ?_
      refine j_iadd G d_M_publish_48 ?_
      obtain ⟨v45, hv45, hm⟩ := Option.bind_eq_some_iff.mp hm
      refine j_iald G d_M_publish_49 hv45 ?_
      obtain ⟨v46, hv46, hm⟩ := Option.bind_eq_some_iff.mp hm
      obtain ⟨v47, hv47, hm⟩ := Option.bind_eq_some_iff.mp hm
      refine j_callV (As := [aI v43, aI v45]) G d_M_publish_50 (c_M_live _ G.off _ _ _ _ _ _ _ _ hv47) mw_M_live mi_M_live lk_M_199 rfl hv46 rfl rfl (Nat.le_of_ble_eq_true rfl) ⟨by decide, by decide⟩ ⟨by decide, by decide⟩ (fun v9 w9 hp => ?_)
      obtain ⟨rfl, rfl⟩ := hp
      refine j_istore G d_M_publish_53 (by decide) ?_
      refine j_iload G d_M_publish_55 rfl ?_
      obtain ⟨j48, hj48, ho48⟩ := Option.bind_eq_some_iff.mp hm
      clear hm
      have hJ48 : aj_J Γ 5 (0, 0) 84 [(0, aRf o), (1, aI s1.1), (2, aI ((6 : Int32) + s1.1)), (3, aI s39.1)] [] j48 := by
        clear hj48
        have hm := ho48
        clear ho48
        refine j_iinc (v := s39.1 + 1) G d_M_publish_84 rfl (by first | rfl | decide) (by decide) ?_
        refine j_goto (tgt := 17) G d_M_publish_87 rfl ?_
        refine j_lv [(0, aRf o), (1, aI s1.1), (2, aI ((6 : Int32) + s1.1)), (3, aI (s39.1 + 1))] rfl ?_
        have z9 := hin39 _ (Option.some.inj hm).symm
        exact z9
      clear ho48
      have hm := hj48
      clear hj48
      refine j_if_lt (tgt := 84) G d_M_publish_57 rfl (fun hc => ?_) (fun hc => ?_)
      · rw [if_pos hc] at hm
        obtain rfl := Option.some.inj hm
        refine j_lv [(0, aRf o), (1, aI s1.1), (2, aI ((6 : Int32) + s1.1)), (3, aI s39.1)] rfl ?_
        exact hJ48
      · rw [if_neg hc] at hm
        refine j_aload_n G d_M_publish_60 rfl ?_
        obtain ⟨v49, hv49, hm⟩ := Option.bind_eq_some_iff.mp hm
        refine j_gR G d_M_publish_61 fl_M_57 hv49 ?_
        refine j_iload G d_M_publish_64 rfl ?_
        refine j_ldc G d_M_publish_66 wd_5_20 ?_
        refine j_aload_n G d_M_publish_68 rfl ?_
        obtain ⟨v50, hv50, hm⟩ := Option.bind_eq_some_iff.mp hm
        refine j_gR G d_M_publish_69 fl_M_7 hv50 ?_
        refine j_iload_n G d_M_publish_72 rfl ?_
        obtain ⟨v51, hv51, hm⟩ := Option.bind_eq_some_iff.mp hm
        refine j_iald G d_M_publish_73 hv51 ?_
        refine j_iadd G d_M_publish_74 ?_
        obtain ⟨v52, hv52, hm⟩ := Option.bind_eq_some_iff.mp hm
        refine j_iast G d_M_publish_75 hv52 ?_
        refine j_aload_n G d_M_publish_76 rfl ?_
        obtain ⟨v53, hv53, hm⟩ := Option.bind_eq_some_iff.mp hm
        refine j_gR G d_M_publish_77 fl_M_60 hv53 ?_
        refine j_iload G d_M_publish_80 rfl ?_
        refine j_iload_n G d_M_publish_82 rfl ?_
        obtain ⟨v54, hv54, hm⟩ := Option.bind_eq_some_iff.mp hm
        refine j_iast G d_M_publish_83 hv54 ?_
        obtain rfl := Option.some.inj hm
        refine j_lv [(0, aRf o), (1, aI s1.1), (2, aI ((6 : Int32) + s1.1)), (3, aI s39.1)] rfl ?_
        exact hJ48
noncomputable def f_M_merge (w : aw_W) (o : Option Nat) (p1 : Int32) : Option (Int32 × aw_W) :=
  (aw_gI w o 7 20).bind fun v1 =>
  (if v1 = 0 then
      (aw_gI w o 7 1).bind fun v2 =>
      some v2
    else
      (aw_gI w o 7 1).bind fun v3 =>
      some (v3 - (1 : Int32)) : Option (Int32)).bind fun j4 =>
  (f_M_in w p1 (1 : Int32) (20 : Int32)).bind fun v5 =>
  (if v5 = 0 then
      some (1 : Int32)
    else
      (aw_gI w o 7 21).bind fun v6 =>
      if v6 = 0 then
        (aw_gI w o 7 24).bind fun v7 =>
        if v7 = 0 then
          if j4 = 0 then
            some (2 : Int32)
          else
            some (0 : Int32)
        else
          some (0 : Int32)
      else
        some (2 : Int32) : Option (Int32)).bind fun j8 =>
  (aw_pV w o 7 0 (.int j8)).bind fun v9 =>
  (aw_gI v9 o 7 0).bind fun v10 =>
  if v10 ≤ 0 then
    (aw_gI v9 o 7 24).bind fun v11 =>
    (if v11 = 0 then
        (aw_pV v9 o 7 24 (.int (1 : Int32))).bind fun v12 =>
        (aw_pV v12 o 7 25 (.int j4)).bind fun v13 =>
        (aw_pV v13 o 7 26 (.int (0 : Int32))).bind fun v14 =>
        (aw_pV v14 o 7 27 (.int (0 : Int32))).bind fun v15 =>
        (aw_pV v15 o 7 28 (.int (0 : Int32))).bind fun v16 =>
        (aw_obj v16 o 7).bind fun v17 =>
        (f_M_skip v16 o).bind fun v18 =>
        some v18
      else
        some v9 : Option (aw_W)).bind fun j19 =>
    (aw_wh (σ := Int32 × aw_W) (τ := Int32 × aw_W) (fun s20 =>
      if p1 ≤ s20.1 then
        some (.inr (s20.1, s20.2))
      else
        (aw_gI s20.2 o 7 26).bind fun v21 =>
        (aw_gI s20.2 o 7 25).bind fun v22 =>
        if v22 ≤ v21 then
          some (.inr (s20.1, s20.2))
        else
          (aw_obj s20.2 o 7).bind fun v23 =>
          (f_M_comeToNext s20.2 o).bind fun v24 =>
          some (.inl (s20.1 + 1, v24))) ((0 : Int32), j19)).bind fun e25 =>
    (aw_gI e25.2 o 7 26).bind fun v26 =>
    (aw_gI e25.2 o 7 25).bind fun v27 =>
    if v27 ≤ v26 then
      (aw_obj e25.2 o 7).bind fun v28 =>
      (f_M_publish e25.2 o).bind fun v29 =>
      some ((1 : Int32), v29)
    else
      some ((0 : Int32), e25.2)
  else
    some ((0 : Int32), v9)
abbrev rm_M_merge : Room := { frames := 4, cells := 0, slots := 0, locals := 100 }
set_option maxRecDepth 100000 in
set_option maxHeartbeats 4000000 in
theorem c_M_merge (l : Launch) (hl : l.stackTraces = false) (D : va_G) (dA : Nat → ClassId) (base : Nat) (w : aw_W) (o : Option Nat) (p1 : Int32) (r : Int32 × aw_W) (hm : f_M_merge w o p1 = some r) : aj_Ct l D dA base m_M_merge rm_M_merge [aRf o, aI p1] w (fun v w' => some (aI r.1) = v ∧ r.2 = w') := by
  refine aj_enter hl (by decide) (Nat.le_of_ble_eq_true rfl) ?_
  intro Γ G E
  unfold f_M_merge at hm
  refine j_aload_n G d_M_merge_0 rfl ?_
  obtain ⟨v1, hv1, hm⟩ := Option.bind_eq_some_iff.mp hm
  refine j_gI G d_M_merge_1 fl_M_102 hv1 ?_
  obtain ⟨j2, hj2, ho2⟩ := Option.bind_eq_some_iff.mp hm
  clear hm
  have hJ2 : aj_J Γ 4 (0, 0) 20 [(0, aRf o), (1, aI p1)] [aI j2] w := by
    clear hj2
    have hm := ho2
    clear ho2
    refine j_istore_n G d_M_merge_20 (by decide) ?_
    refine j_aload_n G d_M_merge_21 rfl ?_
    refine j_iload_n G d_M_merge_22 rfl ?_
    refine j_iconst (v := 1) G d_M_merge_23 (by decide) ?_
    refine j_bipush (v := 20) G d_M_merge_24 (by decide) ?_
    obtain ⟨v3, hv3, hm⟩ := Option.bind_eq_some_iff.mp hm
    refine j_callS (As := [aI p1, aI (1 : Int32), aI (20 : Int32)]) G d_M_merge_26 (c_M_in _ G.off _ _ _ _ _ _ _ _ hv3) mw_M_in ms_M_in lk_M_133 rfl rfl (Nat.le_of_ble_eq_true rfl) ⟨by decide, by decide⟩ ⟨by decide, by decide⟩ (fun v9 w9 hp => ?_)
    obtain ⟨rfl, rfl⟩ := hp
    obtain ⟨j4, hj4, ho4⟩ := Option.bind_eq_some_iff.mp hm
    clear hm
    have hJ4 : aj_J Γ 4 (0, 0) 59 [(0, aRf o), (1, aI p1), (2, aI j2)] [aI j4, aRf o] w := by
      clear hj4
      have hm := ho4
      clear ho4
      obtain ⟨v5, hv5, hm⟩ := Option.bind_eq_some_iff.mp hm
      refine j_pV (ty := aY_M 0) G d_M_merge_59 fl_M_63 ac_M (aw_T_of_M 0 (by decide) rfl) rfl rfl hv5 ?_
      refine j_aload_n G d_M_merge_62 rfl ?_
      obtain ⟨v6, hv6, hm⟩ := Option.bind_eq_some_iff.mp hm
      refine j_gI G d_M_merge_63 fl_M_63 hv6 ?_
      refine j_if_le (tgt := 71) G d_M_merge_66 rfl (fun hc => ?_) (fun hc => ?_)
      · rw [if_pos hc] at hm
        refine j_aload_n G d_M_merge_71 rfl ?_
        obtain ⟨v7, hv7, hm⟩ := Option.bind_eq_some_iff.mp hm
        refine j_gI G d_M_merge_72 fl_M_175 hv7 ?_
        obtain ⟨j8, hj8, ho8⟩ := Option.bind_eq_some_iff.mp hm
        clear hm
        have hJ8 : aj_J Γ 4 (0, 0) 107 [(0, aRf o), (1, aI p1)] [] j8 := by
          clear hj8
          have hm := ho8
          clear ho8
          refine j_iconst (v := 0) G d_M_merge_107 (by decide) ?_
          refine j_istore_n G d_M_merge_108 (by decide) ?_
          obtain ⟨e9, he9, ho9⟩ := Option.bind_eq_some_iff.mp hm
          clear hm
          refine j_lv [(0, aRf o), (1, aI p1), (3, aI (0 : Int32))] rfl ?_
          refine aw_wh_elim (fun (s : Int32 × aw_W) => aj_J Γ 4 (0, 0) 109 [(0, aRf o), (1, aI p1), (3, aI s.1)] [] s.2) ?_ he9
          intro s9 x9 hm hin9 hout9
          try dsimp only at hm ⊢
          refine j_iload_n G d_M_merge_109 rfl ?_
          refine j_iload_n G d_M_merge_110 rfl ?_
          refine j_icmp_ge (tgt := 135) G d_M_merge_111 rfl (fun hc => ?_) (fun hc => ?_)
          · rw [if_pos hc] at hm
            have q9 := hout9 _ (Option.some.inj hm).symm
            clear hin9 hout9
            subst q9
            clear hm
            have hm := ho9
            clear ho9
            try dsimp only at hm
            refine j_aload_n G d_M_merge_135 rfl ?_
            obtain ⟨v10, hv10, hm⟩ := Option.bind_eq_some_iff.mp hm
            refine j_gI G d_M_merge_136 fl_M_190 hv10 ?_
            refine j_aload_n G d_M_merge_139 rfl ?_
            obtain ⟨v11, hv11, hm⟩ := Option.bind_eq_some_iff.mp hm
            refine j_gI G d_M_merge_140 fl_M_193 hv11 ?_
            refine j_icmp_ge (tgt := 148) G d_M_merge_143 rfl (fun hc => ?_) (fun hc => ?_)
            · rw [if_pos hc] at hm
              refine j_aload_n G d_M_merge_148 rfl ?_
              obtain ⟨v12, hv12, hm⟩ := Option.bind_eq_some_iff.mp hm
              obtain ⟨v13, hv13, hm⟩ := Option.bind_eq_some_iff.mp hm
              refine j_callV (As := []) G d_M_merge_149 (c_M_publish _ G.off _ _ _ _ _ _ hv13) mw_M_publish mi_M_publish lk_M_218 rfl hv12 rfl rfl (Nat.le_of_ble_eq_true rfl) ⟨by decide, by decide⟩ ⟨by decide, by decide⟩ (fun v9 w9 hp => ?_)
              obtain ⟨rfl, rfl⟩ := hp
              refine j_iconst (v := 1) G d_M_merge_152 (by decide) ?_
              obtain rfl := Option.some.inj hm
              exact j_zret G E d_M_merge_153 ⟨by decide, by decide⟩ (by decide) ⟨rfl, rfl⟩
            · rw [if_neg hc] at hm
              refine j_iconst (v := 0) G d_M_merge_146 (by decide) ?_
              obtain rfl := Option.some.inj hm
              exact j_zret G E d_M_merge_147 ⟨by decide, by decide⟩ (by decide) ⟨rfl, rfl⟩
          · rw [if_neg hc] at hm
            refine j_aload_n G d_M_merge_114 rfl ?_
            obtain ⟨v14, hv14, hm⟩ := Option.bind_eq_some_iff.mp hm
            refine j_gI G d_M_merge_115 fl_M_190 hv14 ?_
            refine j_aload_n G d_M_merge_118 rfl ?_
            obtain ⟨v15, hv15, hm⟩ := Option.bind_eq_some_iff.mp hm
            refine j_gI G d_M_merge_119 fl_M_193 hv15 ?_
            refine j_icmp_ge (tgt := 135) G d_M_merge_122 rfl (fun hc => ?_) (fun hc => ?_)
            · rw [if_pos hc] at hm
              have q9 := hout9 _ (Option.some.inj hm).symm
              clear hin9 hout9
              subst q9
              clear hm
              have hm := ho9
              clear ho9
              try dsimp only at hm
              refine j_aload_n G d_M_merge_135 rfl ?_
              obtain ⟨v16, hv16, hm⟩ := Option.bind_eq_some_iff.mp hm
              refine j_gI G d_M_merge_136 fl_M_190 hv16 ?_
              refine j_aload_n G d_M_merge_139 rfl ?_
              obtain ⟨v17, hv17, hm⟩ := Option.bind_eq_some_iff.mp hm
              refine j_gI G d_M_merge_140 fl_M_193 hv17 ?_
              refine j_icmp_ge (tgt := 148) G d_M_merge_143 rfl (fun hc => ?_) (fun hc => ?_)
              · rw [if_pos hc] at hm
                refine j_aload_n G d_M_merge_148 rfl ?_
                obtain ⟨v18, hv18, hm⟩ := Option.bind_eq_some_iff.mp hm
                obtain ⟨v19, hv19, hm⟩ := Option.bind_eq_some_iff.mp hm
                refine j_callV (As := []) G d_M_merge_149 (c_M_publish _ G.off _ _ _ _ _ _ hv19) mw_M_publish mi_M_publish lk_M_218 rfl hv18 rfl rfl (Nat.le_of_ble_eq_true rfl) ⟨by decide, by decide⟩ ⟨by decide, by decide⟩ (fun v9 w9 hp => ?_)
                obtain ⟨rfl, rfl⟩ := hp
                refine j_iconst (v := 1) G d_M_merge_152 (by decide) ?_
                obtain rfl := Option.some.inj hm
                exact j_zret G E d_M_merge_153 ⟨by decide, by decide⟩ (by decide) ⟨rfl, rfl⟩
              · rw [if_neg hc] at hm
                refine j_iconst (v := 0) G d_M_merge_146 (by decide) ?_
                obtain rfl := Option.some.inj hm
                exact j_zret G E d_M_merge_147 ⟨by decide, by decide⟩ (by decide) ⟨rfl, rfl⟩
            · rw [if_neg hc] at hm
              refine j_aload_n G d_M_merge_125 rfl ?_
              obtain ⟨v20, hv20, hm⟩ := Option.bind_eq_some_iff.mp hm
              obtain ⟨v21, hv21, hm⟩ := Option.bind_eq_some_iff.mp hm
              refine j_callV (As := []) G d_M_merge_126 (c_M_comeToNext _ G.off _ _ _ _ _ _ hv21) mw_M_comeToNext mi_M_comeToNext lk_M_215 rfl hv20 rfl rfl (Nat.le_of_ble_eq_true rfl) ⟨by decide, by decide⟩ ⟨by decide, by decide⟩ (fun v9 w9 hp => ?_)
              obtain ⟨rfl, rfl⟩ := hp
              refine j_iinc (v := s9.1 + 1) G d_M_merge_129 rfl (by first | rfl | decide) (by decide) ?_
              refine j_goto (tgt := 109) G d_M_merge_132 rfl ?_
              refine j_lv [(0, aRf o), (1, aI p1), (3, aI (s9.1 + 1))] rfl ?_
              have z9 := hin9 _ (Option.some.inj hm).symm
              exact z9
        clear ho8
        have hm := hj8
        clear hj8
        refine j_if_ne (tgt := 107) G d_M_merge_75 rfl (fun hc => ?_) (fun hc => ?_)
        · rw [if_neg hc] at hm
          obtain rfl := Option.some.inj hm
          refine j_lv [(0, aRf o), (1, aI p1)] rfl ?_
          exact hJ8
        · rw [if_pos hc] at hm
          refine j_aload_n G d_M_merge_78 rfl ?_
          refine j_iconst (v := 1) G d_M_merge_79 (by decide) ?_
          obtain ⟨v22, hv22, hm⟩ := Option.bind_eq_some_iff.mp hm
          refine j_pV (ty := aY_M 24) G d_M_merge_80 fl_M_175 ac_M (aw_T_of_M 24 (by decide) rfl) (by decide) (by decide) hv22 ?_
          refine j_aload_n G d_M_merge_83 rfl ?_
          refine j_iload_n G d_M_merge_84 rfl ?_
          obtain ⟨v23, hv23, hm⟩ := Option.bind_eq_some_iff.mp hm
          refine j_pV (ty := aY_M 25) G d_M_merge_85 fl_M_193 ac_M (aw_T_of_M 25 (by decide) rfl) rfl rfl hv23 ?_
          refine j_aload_n G d_M_merge_88 rfl ?_
          refine j_iconst (v := 0) G d_M_merge_89 (by decide) ?_
          obtain ⟨v24, hv24, hm⟩ := Option.bind_eq_some_iff.mp hm
          refine j_pV (ty := aY_M 26) G d_M_merge_90 fl_M_190 ac_M (aw_T_of_M 26 (by decide) rfl) rfl rfl hv24 ?_
          refine j_aload_n G d_M_merge_93 rfl ?_
          refine j_iconst (v := 0) G d_M_merge_94 (by decide) ?_
          obtain ⟨v25, hv25, hm⟩ := Option.bind_eq_some_iff.mp hm
          refine j_pV (ty := aY_M 27) G d_M_merge_95 fl_M_196 ac_M (aw_T_of_M 27 (by decide) rfl) rfl rfl hv25 ?_
          refine j_aload_n G d_M_merge_98 rfl ?_
          refine j_iconst (v := 0) G d_M_merge_99 (by decide) ?_
          obtain ⟨v26, hv26, hm⟩ := Option.bind_eq_some_iff.mp hm
          refine j_pV (ty := aY_M 28) G d_M_merge_100 fl_M_202 ac_M (aw_T_of_M 28 (by decide) rfl) rfl rfl hv26 ?_
          refine j_aload_n G d_M_merge_103 rfl ?_
          obtain ⟨v27, hv27, hm⟩ := Option.bind_eq_some_iff.mp hm
          obtain ⟨v28, hv28, hm⟩ := Option.bind_eq_some_iff.mp hm
          refine j_callV (As := []) G d_M_merge_104 (c_M_skip _ G.off _ _ _ _ _ _ hv28) mw_M_skip mi_M_skip lk_M_205 rfl hv27 rfl rfl (Nat.le_of_ble_eq_true rfl) ⟨by decide, by decide⟩ ⟨by decide, by decide⟩ (fun v9 w9 hp => ?_)
          obtain ⟨rfl, rfl⟩ := hp
          obtain rfl := Option.some.inj hm
          refine j_lv [(0, aRf o), (1, aI p1)] rfl ?_
          exact hJ8
      · rw [if_neg hc] at hm
        refine j_iconst (v := 0) G d_M_merge_69 (by decide) ?_
        obtain rfl := Option.some.inj hm
        exact j_zret G E d_M_merge_70 ⟨by decide, by decide⟩ (by decide) ⟨rfl, rfl⟩
    clear ho4
    have hm := hj4
    clear hj4
    refine j_if_ne (tgt := 36) G d_M_merge_29 rfl (fun hc => ?_) (fun hc => ?_)
    · rw [if_neg hc] at hm
      refine j_aload_n G d_M_merge_36 rfl ?_
      obtain ⟨v29, hv29, hm⟩ := Option.bind_eq_some_iff.mp hm
      refine j_gI G d_M_merge_37 fl_M_137 hv29 ?_
      refine j_if_ne (tgt := 54) G d_M_merge_40 rfl (fun hc => ?_) (fun hc => ?_)
      · rw [if_neg hc] at hm
        refine j_iconst (v := 2) G d_M_merge_54 (by decide) ?_
        refine j_goto (tgt := 59) G d_M_merge_55 rfl ?_
        obtain rfl := Option.some.inj hm
        refine j_lv [(0, aRf o), (1, aI p1), (2, aI j2)] rfl ?_
        exact hJ4
      · rw [if_pos hc] at hm
        refine j_aload_n G d_M_merge_43 rfl ?_
        obtain ⟨v30, hv30, hm⟩ := Option.bind_eq_some_iff.mp hm
        refine j_gI G d_M_merge_44 fl_M_175 hv30 ?_
        refine j_if_ne (tgt := 58) G d_M_merge_47 rfl (fun hc => ?_) (fun hc => ?_)
        · rw [if_neg hc] at hm
          refine j_iconst (v := 0) G d_M_merge_58 (by decide) ?_
          obtain rfl := Option.some.inj hm
          refine j_lv [(0, aRf o), (1, aI p1), (2, aI j2)] rfl ?_
          exact hJ4
        · rw [if_pos hc] at hm
          refine j_iload_n G d_M_merge_50 rfl ?_
          refine j_if_ne (tgt := 58) G d_M_merge_51 rfl (fun hc => ?_) (fun hc => ?_)
          · rw [if_neg hc] at hm
            refine j_iconst (v := 0) G d_M_merge_58 (by decide) ?_
            obtain rfl := Option.some.inj hm
            refine j_lv [(0, aRf o), (1, aI p1), (2, aI j2)] rfl ?_
            exact hJ4
          · rw [if_pos hc] at hm
            refine j_iconst (v := 2) G d_M_merge_54 (by decide) ?_
            refine j_goto (tgt := 59) G d_M_merge_55 rfl ?_
            obtain rfl := Option.some.inj hm
            refine j_lv [(0, aRf o), (1, aI p1), (2, aI j2)] rfl ?_
            exact hJ4
    · rw [if_pos hc] at hm
      refine j_iconst (v := 1) G d_M_merge_32 (by decide) ?_
      refine j_goto (tgt := 59) G d_M_merge_33 rfl ?_
      obtain rfl := Option.some.inj hm
      refine j_lv [(0, aRf o), (1, aI p1), (2, aI j2)] rfl ?_
      exact hJ4
  clear ho2
  have hm := hj2
  clear hj2
  refine j_if_eq (tgt := 16) G d_M_merge_4 rfl (fun hc => ?_) (fun hc => ?_)
  · rw [if_pos hc] at hm
    refine j_aload_n G d_M_merge_16 rfl ?_
    obtain ⟨v31, hv31, hm⟩ := Option.bind_eq_some_iff.mp hm
    refine j_gI G d_M_merge_17 fl_M_99 hv31 ?_
    obtain rfl := Option.some.inj hm
    refine j_lv [(0, aRf o), (1, aI p1)] rfl ?_
    exact hJ2
  · rw [if_neg hc] at hm
    refine j_aload_n G d_M_merge_7 rfl ?_
    obtain ⟨v32, hv32, hm⟩ := Option.bind_eq_some_iff.mp hm
    refine j_gI G d_M_merge_8 fl_M_99 hv32 ?_
    refine j_iconst (v := 1) G d_M_merge_11 (by decide) ?_
    refine j_isub G d_M_merge_12 ?_
    refine j_goto (tgt := 20) G d_M_merge_13 rfl ?_
    obtain rfl := Option.some.inj hm
    refine j_lv [(0, aRf o), (1, aI p1)] rfl ?_
    exact hJ2
noncomputable def f_M_files (w : aw_W) (o : Option Nat) : Option (Int32 × aw_W) :=
  (aw_pV w o 7 0 (.int (0 : Int32))).bind fun v1 =>
  (aw_gI v1 o 7 1).bind fun v2 =>
  some (v2, v1)
abbrev rm_M_files : Room := { frames := 0, cells := 0, slots := 0, locals := 0 }
set_option maxRecDepth 100000 in
set_option maxHeartbeats 4000000 in
theorem c_M_files (l : Launch) (hl : l.stackTraces = false) (D : va_G) (dA : Nat → ClassId) (base : Nat) (w : aw_W) (o : Option Nat) (r : Int32 × aw_W) (hm : f_M_files w o = some r) : aj_Ct l D dA base m_M_files rm_M_files [aRf o] w (fun v w' => some (aI r.1) = v ∧ r.2 = w') := by
  refine aj_enter hl (by decide) (Nat.le_of_ble_eq_true rfl) ?_
  intro Γ G E
  unfold f_M_files at hm
  refine j_aload_n G d_M_files_0 rfl ?_
  refine j_iconst (v := 0) G d_M_files_1 (by decide) ?_
  obtain ⟨v1, hv1, hm⟩ := Option.bind_eq_some_iff.mp hm
  refine j_pV (ty := aY_M 0) G d_M_files_2 fl_M_63 ac_M (aw_T_of_M 0 (by decide) rfl) rfl rfl hv1 ?_
  refine j_aload_n G d_M_files_5 rfl ?_
  obtain ⟨v2, hv2, hm⟩ := Option.bind_eq_some_iff.mp hm
  refine j_gI G d_M_files_6 fl_M_99 hv2 ?_
  obtain rfl := Option.some.inj hm
  exact j_iret G E d_M_files_9 ⟨by decide, by decide⟩ ⟨rfl, rfl⟩
noncomputable def f_M_liveIn (w : aw_W) (o : Option Nat) (p1 : Int32) : Option (Int32) :=
  (aw_wh (σ := Int32 × Int32) (τ := Int32 × Int32) (fun s1 =>
    (aw_gI w o 7 15).bind fun v2 =>
    if v2 ≤ s1.2 then
      some (.inr (s1.1, s1.2))
    else
      (aw_gI w o 7 21).bind fun v3 =>
      if v3 = 0 then
        (aw_gR w o 7 18).bind fun v4 =>
        (aw_aI w v4 1 s1.2).bind fun v5 =>
        (aw_gR w o 7 2).bind fun v6 =>
        (aw_aI w v6 1 p1).bind fun v7 =>
        (if v5 = v7 then
            (aw_gR w o 7 19).bind fun v8 =>
            (aw_aI w v8 1 s1.2).bind fun v9 =>
            (aw_obj w o 7).bind fun v10 =>
            (f_M_length w o p1 v9).bind fun v11 =>
            some (s1.1 + v11)
          else
            some s1.1 : Option (Int32)).bind fun j12 =>
        some (.inl (j12, s1.2 + 1))
      else
        some (.inr (s1.1, s1.2))) ((0 : Int32), (0 : Int32))).bind fun e13 =>
  some e13.1
abbrev rm_M_liveIn : Room := { frames := 2, cells := 0, slots := 0, locals := 43 }
set_option maxRecDepth 100000 in
set_option maxHeartbeats 4000000 in
theorem c_M_liveIn (l : Launch) (hl : l.stackTraces = false) (D : va_G) (dA : Nat → ClassId) (base : Nat) (w : aw_W) (o : Option Nat) (p1 : Int32) (r : Int32) (hm : f_M_liveIn w o p1 = some r) : aj_Ct l D dA base m_M_liveIn rm_M_liveIn [aRf o, aI p1] w (fun v w' => some (aI r) = v ∧ w = w') := by
  refine aj_enter hl (by decide) (Nat.le_of_ble_eq_true rfl) ?_
  intro Γ G E
  unfold f_M_liveIn at hm
  refine j_iconst (v := 0) G d_M_liveIn_0 (by decide) ?_
  refine j_istore_n G d_M_liveIn_1 (by decide) ?_
  refine j_iconst (v := 0) G d_M_liveIn_2 (by decide) ?_
  refine j_istore_n G d_M_liveIn_3 (by decide) ?_
  obtain ⟨e1, he1, ho1⟩ := Option.bind_eq_some_iff.mp hm
  clear hm
  refine j_lv [(0, aRf o), (1, aI p1), (2, aI (0 : Int32)), (3, aI (0 : Int32))] rfl ?_
  refine aw_wh_elim (fun (s : Int32 × Int32) => aj_J Γ 4 (0, 0) 4 [(0, aRf o), (1, aI p1), (2, aI s.1), (3, aI s.2)] [] w) ?_ he1
  intro s1 x1 hm hin1 hout1
  try dsimp only at hm ⊢
  refine j_iload_n G d_M_liveIn_4 rfl ?_
  refine j_aload_n G d_M_liveIn_5 rfl ?_
  obtain ⟨v2, hv2, hm⟩ := Option.bind_eq_some_iff.mp hm
  refine j_gI G d_M_liveIn_6 fl_M_85 hv2 ?_
  refine j_icmp_ge (tgt := 58) G d_M_liveIn_9 rfl (fun hc => ?_) (fun hc => ?_)
  · rw [if_pos hc] at hm
    have q1 := hout1 _ (Option.some.inj hm).symm
    clear hin1 hout1
    subst q1
    clear hm
    have hm := ho1
    clear ho1
    try dsimp only at hm
    refine j_iload_n G d_M_liveIn_58 rfl ?_
    obtain rfl := Option.some.inj hm
    exact j_iret G E d_M_liveIn_59 ⟨by decide, by decide⟩ ⟨rfl, rfl⟩
  · rw [if_neg hc] at hm
    refine j_aload_n G d_M_liveIn_12 rfl ?_
    obtain ⟨v3, hv3, hm⟩ := Option.bind_eq_some_iff.mp hm
    refine j_gI G d_M_liveIn_13 fl_M_137 hv3 ?_
    refine j_if_ne (tgt := 58) G d_M_liveIn_16 rfl (fun hc => ?_) (fun hc => ?_)
    · rw [if_neg hc] at hm
      have q1 := hout1 _ (Option.some.inj hm).symm
      clear hin1 hout1
      subst q1
      clear hm
      have hm := ho1
      clear ho1
      try dsimp only at hm
      refine j_iload_n G d_M_liveIn_58 rfl ?_
      obtain rfl := Option.some.inj hm
      exact j_iret G E d_M_liveIn_59 ⟨by decide, by decide⟩ ⟨rfl, rfl⟩
    · rw [if_pos hc] at hm
      refine j_aload_n G d_M_liveIn_19 rfl ?_
      obtain ⟨v4, hv4, hm⟩ := Option.bind_eq_some_iff.mp hm
      refine j_gR G d_M_liveIn_20 fl_M_57 hv4 ?_
      refine j_iload_n G d_M_liveIn_23 rfl ?_
      obtain ⟨v5, hv5, hm⟩ := Option.bind_eq_some_iff.mp hm
      refine j_iald G d_M_liveIn_24 hv5 ?_
      refine j_aload_n G d_M_liveIn_25 rfl ?_
      obtain ⟨v6, hv6, hm⟩ := Option.bind_eq_some_iff.mp hm
      refine j_gR G d_M_liveIn_26 fl_M_7 hv6 ?_
      refine j_iload_n G d_M_liveIn_29 rfl ?_
      obtain ⟨v7, hv7, hm⟩ := Option.bind_eq_some_iff.mp hm
      refine j_iald G d_M_liveIn_30 hv7 ?_
      obtain ⟨j8, hj8, ho8⟩ := Option.bind_eq_some_iff.mp hm
      clear hm
      have hJ8 : aj_J Γ 4 (0, 0) 51 [(0, aRf o), (1, aI p1), (3, aI s1.2)] [aI j8] w := by
        clear hj8
        have hm := ho8
        clear ho8
        refine j_istore_n G d_M_liveIn_51 (by decide) ?_
        refine j_iinc (v := s1.2 + 1) G d_M_liveIn_52 rfl (by first | rfl | decide) (by decide) ?_
        refine j_goto (tgt := 4) G d_M_liveIn_55 rfl ?_
        refine j_lv [(0, aRf o), (1, aI p1), (2, aI j8), (3, aI (s1.2 + 1))] rfl ?_
        have z9 := hin1 _ (Option.some.inj hm).symm
        exact z9
      clear ho8
      have hm := hj8
      clear hj8
      refine j_icmp_ne (tgt := 50) G d_M_liveIn_31 rfl (fun hc => ?_) (fun hc => ?_)
      · rw [if_neg hc] at hm
        refine j_iload_n G d_M_liveIn_50 rfl ?_
        obtain rfl := Option.some.inj hm
        refine j_lv [(0, aRf o), (1, aI p1), (3, aI s1.2)] rfl ?_
        exact hJ8
      · rw [if_pos hc] at hm
        refine j_iload_n G d_M_liveIn_34 rfl ?_
        refine j_aload_n G d_M_liveIn_35 rfl ?_
        refine j_iload_n G d_M_liveIn_36 rfl ?_
        refine j_aload_n G d_M_liveIn_37 rfl ?_
        obtain ⟨v9, hv9, hm⟩ := Option.bind_eq_some_iff.mp hm
        refine j_gR G d_M_liveIn_38 fl_M_60 hv9 ?_
        refine j_iload_n G d_M_liveIn_41 rfl ?_
        obtain ⟨v10, hv10, hm⟩ := Option.bind_eq_some_iff.mp hm
        refine j_iald G d_M_liveIn_42 hv10 ?_
        obtain ⟨v11, hv11, hm⟩ := Option.bind_eq_some_iff.mp hm
        obtain ⟨v12, hv12, hm⟩ := Option.bind_eq_some_iff.mp hm
        refine j_callV (As := [aI p1, aI v10]) G d_M_liveIn_43 (c_M_length _ G.off _ _ _ _ _ _ _ _ hv12) mw_M_length mi_M_length lk_M_166 rfl hv11 rfl rfl (Nat.le_of_ble_eq_true rfl) ⟨by decide, by decide⟩ ⟨by decide, by decide⟩ (fun v9 w9 hp => ?_)
        obtain ⟨rfl, rfl⟩ := hp
        refine j_iadd G d_M_liveIn_46 ?_
        refine j_goto (tgt := 51) G d_M_liveIn_47 rfl ?_
        obtain rfl := Option.some.inj hm
        refine j_lv [(0, aRf o), (1, aI p1), (3, aI s1.2)] rfl ?_
        exact hJ8
noncomputable def f_M_file (w : aw_W) (o : Option Nat) (p1 : Int32) (p2 : Int32) : Option (Int32 × aw_W) :=
  (aw_gI w o 7 1).bind fun v1 =>
  (f_M_in w p1 (0 : Int32) (v1 - (1 : Int32))).bind fun v2 =>
  (if v2 = 0 then
      some (1 : Int32)
    else
      (f_M_in w p2 (0 : Int32) (4 : Int32)).bind fun v3 =>
      if v3 = 0 then
        some (1 : Int32)
      else
        some (0 : Int32) : Option (Int32)).bind fun j4 =>
  (aw_pV w o 7 0 (.int j4)).bind fun v5 =>
  (aw_gI v5 o 7 0).bind fun v6 =>
  if v6 ≤ 0 then
    if p2 = (3 : Int32) then
      (aw_obj v5 o 7).bind fun v7 =>
      (f_M_liveIn v5 o p1).bind fun v8 =>
      some (v8, v5)
    else
      (if p2 = 0 then
          (aw_gR v5 o 7 2).bind fun v9 =>
          (aw_aI v5 v9 1 p1).bind fun v10 =>
          some v10
        else
          if p2 = (1 : Int32) then
            (aw_gR v5 o 7 3).bind fun v11 =>
            (aw_aI v5 v11 1 p1).bind fun v12 =>
            some v12
          else
            if p2 = (2 : Int32) then
              (aw_gR v5 o 7 4).bind fun v13 =>
              (aw_aI v5 v13 1 p1).bind fun v14 =>
              some v14
            else
              (aw_gR v5 o 7 6).bind fun v15 =>
              (aw_aI v5 v15 3 p1).bind fun v16 =>
              if v16 = 0 then
                some (0 : Int32)
              else
                (aw_gR v5 o 7 7).bind fun v17 =>
                (aw_aI v5 v17 1 p1).bind fun v18 =>
                some v18 : Option (Int32)).bind fun j19 =>
      some (j19, v5)
  else
    some ((0 : Int32), v5)
abbrev rm_M_file : Room := { frames := 3, cells := 0, slots := 0, locals := 66 }
set_option maxRecDepth 100000 in
set_option maxHeartbeats 4000000 in
theorem c_M_file (l : Launch) (hl : l.stackTraces = false) (D : va_G) (dA : Nat → ClassId) (base : Nat) (w : aw_W) (o : Option Nat) (p1 : Int32) (p2 : Int32) (r : Int32 × aw_W) (hm : f_M_file w o p1 p2 = some r) : aj_Ct l D dA base m_M_file rm_M_file [aRf o, aI p1, aI p2] w (fun v w' => some (aI r.1) = v ∧ r.2 = w') := by
  refine aj_enter hl (by decide) (Nat.le_of_ble_eq_true rfl) ?_
  intro Γ G E
  unfold f_M_file at hm
  refine j_aload_n G d_M_file_0 rfl ?_
  refine j_iload_n G d_M_file_1 rfl ?_
  refine j_iconst (v := 0) G d_M_file_2 (by decide) ?_
  refine j_aload_n G d_M_file_3 rfl ?_
  obtain ⟨v1, hv1, hm⟩ := Option.bind_eq_some_iff.mp hm
  refine j_gI G d_M_file_4 fl_M_99 hv1 ?_
  refine j_iconst (v := 1) G d_M_file_7 (by decide) ?_
  refine j_isub G d_M_file_8 ?_
  obtain ⟨v2, hv2, hm⟩ := Option.bind_eq_some_iff.mp hm
  refine j_callS (As := [aI p1, aI (0 : Int32), aI (v1 - (1 : Int32))]) G d_M_file_9 (c_M_in _ G.off _ _ _ _ _ _ _ _ hv2) mw_M_in ms_M_in lk_M_133 rfl rfl (Nat.le_of_ble_eq_true rfl) ⟨by decide, by decide⟩ ⟨by decide, by decide⟩ (fun v9 w9 hp => ?_)
  obtain ⟨rfl, rfl⟩ := hp
  obtain ⟨j3, hj3, ho3⟩ := Option.bind_eq_some_iff.mp hm
  clear hm
  have hJ3 : aj_J Γ 3 (0, 0) 29 [(0, aRf o), (1, aI p1), (2, aI p2)] [aI j3, aRf o] w := by
    clear hj3
    have hm := ho3
    clear ho3
    obtain ⟨v4, hv4, hm⟩ := Option.bind_eq_some_iff.mp hm
    refine j_pV (ty := aY_M 0) G d_M_file_29 fl_M_63 ac_M (aw_T_of_M 0 (by decide) rfl) rfl rfl hv4 ?_
    refine j_aload_n G d_M_file_32 rfl ?_
    obtain ⟨v5, hv5, hm⟩ := Option.bind_eq_some_iff.mp hm
    refine j_gI G d_M_file_33 fl_M_63 hv5 ?_
    refine j_if_le (tgt := 41) G d_M_file_36 rfl (fun hc => ?_) (fun hc => ?_)
    · rw [if_pos hc] at hm
      refine j_iload_n G d_M_file_41 rfl ?_
      refine j_iconst (v := 3) G d_M_file_42 (by decide) ?_
      refine j_icmp_ne (tgt := 52) G d_M_file_43 rfl (fun hc => ?_) (fun hc => ?_)
      · rw [if_neg hc] at hm
        refine j_iload_n G d_M_file_52 rfl ?_
        obtain ⟨j6, hj6, ho6⟩ := Option.bind_eq_some_iff.mp hm
        clear hm
        have hJ6 : aj_J Γ 3 (0, 0) 112 [] [aI j6] v4 := by
          clear hj6
          have hm := ho6
          clear ho6
          obtain rfl := Option.some.inj hm
          exact j_iret G E d_M_file_112 ⟨by decide, by decide⟩ ⟨rfl, rfl⟩
        clear ho6
        have hm := hj6
        clear hj6
        refine j_if_ne (tgt := 65) G d_M_file_53 rfl (fun hc => ?_) (fun hc => ?_)
        · rw [if_neg hc] at hm
          refine j_iload_n G d_M_file_65 rfl ?_
          refine j_iconst (v := 1) G d_M_file_66 (by decide) ?_
          refine j_icmp_ne (tgt := 79) G d_M_file_67 rfl (fun hc => ?_) (fun hc => ?_)
          · rw [if_neg hc] at hm
            refine j_iload_n G d_M_file_79 rfl ?_
            refine j_iconst (v := 2) G d_M_file_80 (by decide) ?_
            refine j_icmp_ne (tgt := 93) G d_M_file_81 rfl (fun hc => ?_) (fun hc => ?_)
            · rw [if_neg hc] at hm
              refine j_aload_n G d_M_file_93 rfl ?_
              obtain ⟨v7, hv7, hm⟩ := Option.bind_eq_some_iff.mp hm
              refine j_gR G d_M_file_94 fl_M_22 hv7 ?_
              refine j_iload_n G d_M_file_97 rfl ?_
              obtain ⟨v8, hv8, hm⟩ := Option.bind_eq_some_iff.mp hm
              refine j_zald G d_M_file_98 hv8 ?_
              refine j_if_eq (tgt := 111) G d_M_file_99 rfl (fun hc => ?_) (fun hc => ?_)
              · rw [if_pos hc] at hm
                refine j_iconst (v := 0) G d_M_file_111 (by decide) ?_
                obtain rfl := Option.some.inj hm
                refine j_lv [] rfl ?_
                exact hJ6
              · rw [if_neg hc] at hm
                refine j_aload_n G d_M_file_102 rfl ?_
                obtain ⟨v9, hv9, hm⟩ := Option.bind_eq_some_iff.mp hm
                refine j_gR G d_M_file_103 fl_M_26 hv9 ?_
                refine j_iload_n G d_M_file_106 rfl ?_
                obtain ⟨v10, hv10, hm⟩ := Option.bind_eq_some_iff.mp hm
                refine j_iald G d_M_file_107 hv10 ?_
                refine j_goto (tgt := 112) G d_M_file_108 rfl ?_
                obtain rfl := Option.some.inj hm
                refine j_lv [] rfl ?_
                exact hJ6
            · rw [if_pos hc] at hm
              refine j_aload_n G d_M_file_84 rfl ?_
              obtain ⟨v11, hv11, hm⟩ := Option.bind_eq_some_iff.mp hm
              refine j_gR G d_M_file_85 fl_M_16 hv11 ?_
              refine j_iload_n G d_M_file_88 rfl ?_
              obtain ⟨v12, hv12, hm⟩ := Option.bind_eq_some_iff.mp hm
              refine j_iald G d_M_file_89 hv12 ?_
              refine j_goto (tgt := 112) G d_M_file_90 rfl ?_
              obtain rfl := Option.some.inj hm
              refine j_lv [] rfl ?_
              exact hJ6
          · rw [if_pos hc] at hm
            refine j_aload_n G d_M_file_70 rfl ?_
            obtain ⟨v13, hv13, hm⟩ := Option.bind_eq_some_iff.mp hm
            refine j_gR G d_M_file_71 fl_M_13 hv13 ?_
            refine j_iload_n G d_M_file_74 rfl ?_
            obtain ⟨v14, hv14, hm⟩ := Option.bind_eq_some_iff.mp hm
            refine j_iald G d_M_file_75 hv14 ?_
            refine j_goto (tgt := 112) G d_M_file_76 rfl ?_
            obtain rfl := Option.some.inj hm
            refine j_lv [] rfl ?_
            exact hJ6
        · rw [if_pos hc] at hm
          refine j_aload_n G d_M_file_56 rfl ?_
          obtain ⟨v15, hv15, hm⟩ := Option.bind_eq_some_iff.mp hm
          refine j_gR G d_M_file_57 fl_M_7 hv15 ?_
          refine j_iload_n G d_M_file_60 rfl ?_
          obtain ⟨v16, hv16, hm⟩ := Option.bind_eq_some_iff.mp hm
          refine j_iald G d_M_file_61 hv16 ?_
          refine j_goto (tgt := 112) G d_M_file_62 rfl ?_
          obtain rfl := Option.some.inj hm
          refine j_lv [] rfl ?_
          exact hJ6
      · rw [if_pos hc] at hm
        refine j_aload_n G d_M_file_46 rfl ?_
        refine j_iload_n G d_M_file_47 rfl ?_
        obtain ⟨v17, hv17, hm⟩ := Option.bind_eq_some_iff.mp hm
        obtain ⟨v18, hv18, hm⟩ := Option.bind_eq_some_iff.mp hm
        refine j_callV (As := [aI p1]) G d_M_file_48 (c_M_liveIn _ G.off _ _ _ _ _ _ _ hv18) mw_M_liveIn mi_M_liveIn lk_M_221 rfl hv17 rfl rfl (Nat.le_of_ble_eq_true rfl) ⟨by decide, by decide⟩ ⟨by decide, by decide⟩ (fun v9 w9 hp => ?_)
        obtain ⟨rfl, rfl⟩ := hp
        obtain rfl := Option.some.inj hm
        exact j_iret G E d_M_file_51 ⟨by decide, by decide⟩ ⟨rfl, rfl⟩
    · rw [if_neg hc] at hm
      refine j_iconst (v := 0) G d_M_file_39 (by decide) ?_
      obtain rfl := Option.some.inj hm
      exact j_iret G E d_M_file_40 ⟨by decide, by decide⟩ ⟨rfl, rfl⟩
  clear ho3
  have hm := hj3
  clear hj3
  refine j_if_eq (tgt := 28) G d_M_file_12 rfl (fun hc => ?_) (fun hc => ?_)
  · rw [if_pos hc] at hm
    refine j_iconst (v := 1) G d_M_file_28 (by decide) ?_
    obtain rfl := Option.some.inj hm
    refine j_lv [(0, aRf o), (1, aI p1), (2, aI p2)] rfl ?_
    exact hJ3
  · rw [if_neg hc] at hm
    refine j_iload_n G d_M_file_15 rfl ?_
    refine j_iconst (v := 0) G d_M_file_16 (by decide) ?_
    refine j_iconst (v := 4) G d_M_file_17 (by decide) ?_
    obtain ⟨v19, hv19, hm⟩ := Option.bind_eq_some_iff.mp hm
    refine j_callS (As := [aI p2, aI (0 : Int32), aI (4 : Int32)]) G d_M_file_18 (c_M_in _ G.off _ _ _ _ _ _ _ _ hv19) mw_M_in ms_M_in lk_M_133 rfl rfl (Nat.le_of_ble_eq_true rfl) ⟨by decide, by decide⟩ ⟨by decide, by decide⟩ (fun v9 w9 hp => ?_)
    obtain ⟨rfl, rfl⟩ := hp
    refine j_if_eq (tgt := 28) G d_M_file_21 rfl (fun hc => ?_) (fun hc => ?_)
    · rw [if_pos hc] at hm
      refine j_iconst (v := 1) G d_M_file_28 (by decide) ?_
      obtain rfl := Option.some.inj hm
      refine j_lv [(0, aRf o), (1, aI p1), (2, aI p2)] rfl ?_
      exact hJ3
    · rw [if_neg hc] at hm
      refine j_iconst (v := 0) G d_M_file_24 (by decide) ?_
      refine j_goto (tgt := 29) G d_M_file_25 rfl ?_
      obtain rfl := Option.some.inj hm
      refine j_lv [(0, aRf o), (1, aI p1), (2, aI p2)] rfl ?_
      exact hJ3
noncomputable def f_M_isByte (w : aw_W) (o : Option Nat) (p1 : Int32) (p2 : Int32) (p3 : Int32) : Option (Int32) :=
  (aw_gI w o 7 1).bind fun v1 =>
  (f_M_in w p1 (0 : Int32) (v1 - (1 : Int32))).bind fun v2 =>
  (if v2 = 0 then
      some (0 : Int32)
    else
      if p3 = 0 then
        (aw_gR w o 7 3).bind fun v3 =>
        (aw_aI w v3 1 p1).bind fun v4 =>
        (f_M_in w p2 (0 : Int32) (v4 - (1 : Int32))).bind fun v5 =>
        if v5 = 0 then
          some (0 : Int32)
        else
          some (1 : Int32)
      else
        (aw_gR w o 7 6).bind fun v6 =>
        (aw_aI w v6 3 p1).bind fun v7 =>
        if v7 = 0 then
          some (0 : Int32)
        else
          (aw_gR w o 7 7).bind fun v8 =>
          (aw_aI w v8 1 p1).bind fun v9 =>
          (f_M_in w p2 (0 : Int32) (v9 - (1 : Int32))).bind fun v10 =>
          if v10 = 0 then
            some (0 : Int32)
          else
            some (1 : Int32) : Option (Int32)).bind fun j11 =>
  (aw_zz j11).bind fun v12 =>
  some j11
abbrev rm_M_isByte : Room := { frames := 1, cells := 0, slots := 0, locals := 22 }
set_option maxRecDepth 100000 in
set_option maxHeartbeats 4000000 in
theorem c_M_isByte (l : Launch) (hl : l.stackTraces = false) (D : va_G) (dA : Nat → ClassId) (base : Nat) (w : aw_W) (o : Option Nat) (p1 : Int32) (p2 : Int32) (p3 : Int32) (r : Int32) (hm : f_M_isByte w o p1 p2 p3 = some r) : aj_Ct l D dA base m_M_isByte rm_M_isByte [aRf o, aI p1, aI p2, aI p3] w (fun v w' => some (aI r) = v ∧ w = w') := by
  refine aj_enter hl (by decide) (Nat.le_of_ble_eq_true rfl) ?_
  intro Γ G E
  unfold f_M_isByte at hm
  refine j_iload_n G d_M_isByte_0 rfl ?_
  refine j_iconst (v := 0) G d_M_isByte_1 (by decide) ?_
  refine j_aload_n G d_M_isByte_2 rfl ?_
  obtain ⟨v1, hv1, hm⟩ := Option.bind_eq_some_iff.mp hm
  refine j_gI G d_M_isByte_3 fl_M_99 hv1 ?_
  refine j_iconst (v := 1) G d_M_isByte_6 (by decide) ?_
  refine j_isub G d_M_isByte_7 ?_
  obtain ⟨v2, hv2, hm⟩ := Option.bind_eq_some_iff.mp hm
  refine j_callS (As := [aI p1, aI (0 : Int32), aI (v1 - (1 : Int32))]) G d_M_isByte_8 (c_M_in _ G.off _ _ _ _ _ _ _ _ hv2) mw_M_in ms_M_in lk_M_133 rfl rfl (Nat.le_of_ble_eq_true rfl) ⟨by decide, by decide⟩ ⟨by decide, by decide⟩ (fun v9 w9 hp => ?_)
  obtain ⟨rfl, rfl⟩ := hp
  obtain ⟨j3, hj3, ho3⟩ := Option.bind_eq_some_iff.mp hm
  clear hm
  have hJ3 : aj_J Γ 4 (0, 0) 67 [] [aI j3] w := by
    clear hj3
    have hm := ho3
    clear ho3
    obtain ⟨v4, hv4, hm⟩ := Option.bind_eq_some_iff.mp hm
    obtain rfl := Option.some.inj hm
    exact j_zret G E d_M_isByte_67 ⟨by decide, by decide⟩ (aw_zz_some hv4) ⟨rfl, rfl⟩
  clear ho3
  have hm := hj3
  clear hj3
  refine j_if_eq (tgt := 66) G d_M_isByte_11 rfl (fun hc => ?_) (fun hc => ?_)
  · rw [if_pos hc] at hm
    refine j_iconst (v := 0) G d_M_isByte_66 (by decide) ?_
    obtain rfl := Option.some.inj hm
    refine j_lv [] rfl ?_
    exact hJ3
  · rw [if_neg hc] at hm
    refine j_iload_n G d_M_isByte_14 rfl ?_
    refine j_if_eq (tgt := 46) G d_M_isByte_15 rfl (fun hc => ?_) (fun hc => ?_)
    · rw [if_pos hc] at hm
      refine j_iload_n G d_M_isByte_46 rfl ?_
      refine j_iconst (v := 0) G d_M_isByte_47 (by decide) ?_
      refine j_aload_n G d_M_isByte_48 rfl ?_
      obtain ⟨v5, hv5, hm⟩ := Option.bind_eq_some_iff.mp hm
      refine j_gR G d_M_isByte_49 fl_M_13 hv5 ?_
      refine j_iload_n G d_M_isByte_52 rfl ?_
      obtain ⟨v6, hv6, hm⟩ := Option.bind_eq_some_iff.mp hm
      refine j_iald G d_M_isByte_53 hv6 ?_
      refine j_iconst (v := 1) G d_M_isByte_54 (by decide) ?_
      refine j_isub G d_M_isByte_55 ?_
      obtain ⟨v7, hv7, hm⟩ := Option.bind_eq_some_iff.mp hm
      refine j_callS (As := [aI p2, aI (0 : Int32), aI (v6 - (1 : Int32))]) G d_M_isByte_56 (c_M_in _ G.off _ _ _ _ _ _ _ _ hv7) mw_M_in ms_M_in lk_M_133 rfl rfl (Nat.le_of_ble_eq_true rfl) ⟨by decide, by decide⟩ ⟨by decide, by decide⟩ (fun v9 w9 hp => ?_)
      obtain ⟨rfl, rfl⟩ := hp
      refine j_if_eq (tgt := 66) G d_M_isByte_59 rfl (fun hc => ?_) (fun hc => ?_)
      · rw [if_pos hc] at hm
        refine j_iconst (v := 0) G d_M_isByte_66 (by decide) ?_
        obtain rfl := Option.some.inj hm
        refine j_lv [] rfl ?_
        exact hJ3
      · rw [if_neg hc] at hm
        refine j_iconst (v := 1) G d_M_isByte_62 (by decide) ?_
        refine j_goto (tgt := 67) G d_M_isByte_63 rfl ?_
        obtain rfl := Option.some.inj hm
        refine j_lv [] rfl ?_
        exact hJ3
    · rw [if_neg hc] at hm
      refine j_aload_n G d_M_isByte_18 rfl ?_
      obtain ⟨v8, hv8, hm⟩ := Option.bind_eq_some_iff.mp hm
      refine j_gR G d_M_isByte_19 fl_M_22 hv8 ?_
      refine j_iload_n G d_M_isByte_22 rfl ?_
      obtain ⟨v9, hv9, hm⟩ := Option.bind_eq_some_iff.mp hm
      refine j_zald G d_M_isByte_23 hv9 ?_
      refine j_if_eq (tgt := 66) G d_M_isByte_24 rfl (fun hc => ?_) (fun hc => ?_)
      · rw [if_pos hc] at hm
        refine j_iconst (v := 0) G d_M_isByte_66 (by decide) ?_
        obtain rfl := Option.some.inj hm
        refine j_lv [] rfl ?_
        exact hJ3
      · rw [if_neg hc] at hm
        refine j_iload_n G d_M_isByte_27 rfl ?_
        refine j_iconst (v := 0) G d_M_isByte_28 (by decide) ?_
        refine j_aload_n G d_M_isByte_29 rfl ?_
        obtain ⟨v10, hv10, hm⟩ := Option.bind_eq_some_iff.mp hm
        refine j_gR G d_M_isByte_30 fl_M_26 hv10 ?_
        refine j_iload_n G d_M_isByte_33 rfl ?_
        obtain ⟨v11, hv11, hm⟩ := Option.bind_eq_some_iff.mp hm
        refine j_iald G d_M_isByte_34 hv11 ?_
        refine j_iconst (v := 1) G d_M_isByte_35 (by decide) ?_
        refine j_isub G d_M_isByte_36 ?_
        obtain ⟨v12, hv12, hm⟩ := Option.bind_eq_some_iff.mp hm
        refine j_callS (As := [aI p2, aI (0 : Int32), aI (v11 - (1 : Int32))]) G d_M_isByte_37 (c_M_in _ G.off _ _ _ _ _ _ _ _ hv12) mw_M_in ms_M_in lk_M_133 rfl rfl (Nat.le_of_ble_eq_true rfl) ⟨by decide, by decide⟩ ⟨by decide, by decide⟩ (fun v9 w9 hp => ?_)
        obtain ⟨rfl, rfl⟩ := hp
        refine j_if_eq (tgt := 66) G d_M_isByte_40 rfl (fun hc => ?_) (fun hc => ?_)
        · rw [if_pos hc] at hm
          refine j_iconst (v := 0) G d_M_isByte_66 (by decide) ?_
          obtain rfl := Option.some.inj hm
          refine j_lv [] rfl ?_
          exact hJ3
        · rw [if_neg hc] at hm
          refine j_goto (tgt := 62) G d_M_isByte_43 rfl ?_
          refine j_iconst (v := 1) G d_M_isByte_62 (by decide) ?_
          refine j_goto (tgt := 67) G d_M_isByte_63 rfl ?_
          obtain rfl := Option.some.inj hm
          refine j_lv [] rfl ?_
          exact hJ3
noncomputable def f_M_octet (w : aw_W) (o : Option Nat) (p1 : Int32) (p2 : Int32) (p3 : Int32) : Option (Int32 × aw_W) :=
  (aw_obj w o 7).bind fun v1 =>
  (f_M_isByte w o p1 p2 p3).bind fun v2 =>
  (if v2 = 0 then
      some (1 : Int32)
    else
      some (0 : Int32) : Option (Int32)).bind fun j3 =>
  (aw_pV w o 7 0 (.int j3)).bind fun v4 =>
  (aw_gI v4 o 7 0).bind fun v5 =>
  if v5 ≤ 0 then
    (if p3 = 0 then
        (aw_gR v4 o 7 5).bind fun v6 =>
        (aw_aI v4 v6 1 (((100 : Int32) * p1) + p2)).bind fun v7 =>
        some v7
      else
        (aw_gR v4 o 7 8).bind fun v8 =>
        (aw_aI v4 v8 1 (((120 : Int32) * p1) + p2)).bind fun v9 =>
        some v9 : Option (Int32)).bind fun j10 =>
    some (j10, v4)
  else
    some ((0 : Int32), v4)
abbrev rm_M_octet : Room := { frames := 2, cells := 0, slots := 0, locals := 45 }
set_option maxRecDepth 100000 in
set_option maxHeartbeats 4000000 in
theorem c_M_octet (l : Launch) (hl : l.stackTraces = false) (D : va_G) (dA : Nat → ClassId) (base : Nat) (w : aw_W) (o : Option Nat) (p1 : Int32) (p2 : Int32) (p3 : Int32) (r : Int32 × aw_W) (hm : f_M_octet w o p1 p2 p3 = some r) : aj_Ct l D dA base m_M_octet rm_M_octet [aRf o, aI p1, aI p2, aI p3] w (fun v w' => some (aI r.1) = v ∧ r.2 = w') := by
  refine aj_enter hl (by decide) (Nat.le_of_ble_eq_true rfl) ?_
  intro Γ G E
  unfold f_M_octet at hm
  refine j_aload_n G d_M_octet_0 rfl ?_
  refine j_aload_n G d_M_octet_1 rfl ?_
  refine j_iload_n G d_M_octet_2 rfl ?_
  refine j_iload_n G d_M_octet_3 rfl ?_
  refine j_iload_n G d_M_octet_4 rfl ?_
  obtain ⟨v1, hv1, hm⟩ := Option.bind_eq_some_iff.mp hm
  obtain ⟨v2, hv2, hm⟩ := Option.bind_eq_some_iff.mp hm
  refine j_callV (As := [aI p1, aI p2, aI p3]) G d_M_octet_5 (c_M_isByte _ G.off _ _ _ _ _ _ _ _ _ hv2) mw_M_isByte mi_M_isByte lk_M_224 rfl hv1 rfl rfl (Nat.le_of_ble_eq_true rfl) ⟨by decide, by decide⟩ ⟨by decide, by decide⟩ (fun v9 w9 hp => ?_)
  obtain ⟨rfl, rfl⟩ := hp
  obtain ⟨j3, hj3, ho3⟩ := Option.bind_eq_some_iff.mp hm
  clear hm
  have hJ3 : aj_J Γ 4 (0, 0) 16 [(0, aRf o), (1, aI p1), (2, aI p2), (3, aI p3)] [aI j3, aRf o] w := by
    clear hj3
    have hm := ho3
    clear ho3
    obtain ⟨v4, hv4, hm⟩ := Option.bind_eq_some_iff.mp hm
    refine j_pV (ty := aY_M 0) G d_M_octet_16 fl_M_63 ac_M (aw_T_of_M 0 (by decide) rfl) rfl rfl hv4 ?_
    refine j_aload_n G d_M_octet_19 rfl ?_
    obtain ⟨v5, hv5, hm⟩ := Option.bind_eq_some_iff.mp hm
    refine j_gI G d_M_octet_20 fl_M_63 hv5 ?_
    refine j_if_le (tgt := 28) G d_M_octet_23 rfl (fun hc => ?_) (fun hc => ?_)
    · rw [if_pos hc] at hm
      refine j_iload_n G d_M_octet_28 rfl ?_
      obtain ⟨j6, hj6, ho6⟩ := Option.bind_eq_some_iff.mp hm
      clear hm
      have hJ6 : aj_J Γ 4 (0, 0) 57 [] [aI j6] v4 := by
        clear hj6
        have hm := ho6
        clear ho6
        obtain rfl := Option.some.inj hm
        exact j_iret G E d_M_octet_57 ⟨by decide, by decide⟩ ⟨rfl, rfl⟩
      clear ho6
      have hm := hj6
      clear hj6
      refine j_if_eq (tgt := 46) G d_M_octet_29 rfl (fun hc => ?_) (fun hc => ?_)
      · rw [if_pos hc] at hm
        refine j_aload_n G d_M_octet_46 rfl ?_
        obtain ⟨v7, hv7, hm⟩ := Option.bind_eq_some_iff.mp hm
        refine j_gR G d_M_octet_47 fl_M_19 hv7 ?_
        refine j_bipush (v := 100) G d_M_octet_50 (by decide) ?_
        refine j_iload_n G d_M_octet_52 rfl ?_
        refine j_imul G d_M_octet_53 ?_
        refine j_iload_n G d_M_octet_54 rfl ?_
        refine j_iadd G d_M_octet_55 ?_
        obtain ⟨v8, hv8, hm⟩ := Option.bind_eq_some_iff.mp hm
        refine j_iald G d_M_octet_56 hv8 ?_
        obtain rfl := Option.some.inj hm
        refine j_lv [] rfl ?_
        exact hJ6
      · rw [if_neg hc] at hm
        refine j_aload_n G d_M_octet_32 rfl ?_
        obtain ⟨v9, hv9, hm⟩ := Option.bind_eq_some_iff.mp hm
        refine j_gR G d_M_octet_33 fl_M_29 hv9 ?_
        refine j_bipush (v := 120) G d_M_octet_36 (by decide) ?_
        refine j_iload_n G d_M_octet_38 rfl ?_
        refine j_imul G d_M_octet_39 ?_
        refine j_iload_n G d_M_octet_40 rfl ?_
        refine j_iadd G d_M_octet_41 ?_
        obtain ⟨v10, hv10, hm⟩ := Option.bind_eq_some_iff.mp hm
        refine j_iald G d_M_octet_42 hv10 ?_
        refine j_goto (tgt := 57) G d_M_octet_43 rfl ?_
        obtain rfl := Option.some.inj hm
        refine j_lv [] rfl ?_
        exact hJ6
    · rw [if_neg hc] at hm
      refine j_iconst (v := 0) G d_M_octet_26 (by decide) ?_
      obtain rfl := Option.some.inj hm
      exact j_iret G E d_M_octet_27 ⟨by decide, by decide⟩ ⟨rfl, rfl⟩
  clear ho3
  have hm := hj3
  clear hj3
  refine j_if_eq (tgt := 15) G d_M_octet_8 rfl (fun hc => ?_) (fun hc => ?_)
  · rw [if_pos hc] at hm
    refine j_iconst (v := 1) G d_M_octet_15 (by decide) ?_
    obtain rfl := Option.some.inj hm
    refine j_lv [(0, aRf o), (1, aI p1), (2, aI p2), (3, aI p3)] rfl ?_
    exact hJ3
  · rw [if_neg hc] at hm
    refine j_iconst (v := 0) G d_M_octet_11 (by decide) ?_
    refine j_goto (tgt := 16) G d_M_octet_12 rfl ?_
    obtain rfl := Option.some.inj hm
    refine j_lv [(0, aRf o), (1, aI p1), (2, aI p2), (3, aI p3)] rfl ?_
    exact hJ3
noncomputable def f_M_spoil (w : aw_W) (o : Option Nat) (p1 : Int32) (p2 : Int32) (p3 : Int32) (p4 : Int32) : Option (aw_W) :=
  (aw_obj w o 7).bind fun v1 =>
  (f_M_isByte w o p1 p2 p3).bind fun v2 =>
  (if v2 = 0 then
      some (1 : Int32)
    else
      some (0 : Int32) : Option (Int32)).bind fun j3 =>
  (aw_pV w o 7 0 (.int j3)).bind fun v4 =>
  (aw_gI v4 o 7 0).bind fun v5 =>
  if v5 ≤ 0 then
    (if p3 = 0 then
        (aw_gR v4 o 7 5).bind fun v6 =>
        (aw_gR v4 o 7 5).bind fun v7 =>
        (aw_aI v4 v7 1 (((100 : Int32) * p1) + p2)).bind fun v8 =>
        (aw_sI v4 v6 1 (((100 : Int32) * p1) + p2) (v8 ^^^ (p4 &&& (255 : Int32)))).bind fun v9 =>
        some v9
      else
        (aw_gR v4 o 7 8).bind fun v10 =>
        (aw_gR v4 o 7 8).bind fun v11 =>
        (aw_aI v4 v11 1 (((120 : Int32) * p1) + p2)).bind fun v12 =>
        (aw_sI v4 v10 1 (((120 : Int32) * p1) + p2) (v12 ^^^ (p4 &&& (255 : Int32)))).bind fun v13 =>
        some v13 : Option (aw_W)).bind fun j14 =>
    some j14
  else
    some v4
abbrev rm_M_spoil : Room := { frames := 2, cells := 0, slots := 0, locals := 45 }
set_option maxRecDepth 100000 in
set_option maxHeartbeats 4000000 in
theorem c_M_spoil (l : Launch) (hl : l.stackTraces = false) (D : va_G) (dA : Nat → ClassId) (base : Nat) (w : aw_W) (o : Option Nat) (p1 : Int32) (p2 : Int32) (p3 : Int32) (p4 : Int32) (r : aw_W) (hm : f_M_spoil w o p1 p2 p3 p4 = some r) : aj_Ct l D dA base m_M_spoil rm_M_spoil [aRf o, aI p1, aI p2, aI p3, aI p4] w (fun v w' => none = v ∧ r = w') := by
  refine aj_enter hl (by decide) (Nat.le_of_ble_eq_true rfl) ?_
  intro Γ G E
  unfold f_M_spoil at hm
  refine j_aload_n G d_M_spoil_0 rfl ?_
  refine j_aload_n G d_M_spoil_1 rfl ?_
  refine j_iload_n G d_M_spoil_2 rfl ?_
  refine j_iload_n G d_M_spoil_3 rfl ?_
  refine j_iload_n G d_M_spoil_4 rfl ?_
  obtain ⟨v1, hv1, hm⟩ := Option.bind_eq_some_iff.mp hm
  obtain ⟨v2, hv2, hm⟩ := Option.bind_eq_some_iff.mp hm
  refine j_callV (As := [aI p1, aI p2, aI p3]) G d_M_spoil_5 (c_M_isByte _ G.off _ _ _ _ _ _ _ _ _ hv2) mw_M_isByte mi_M_isByte lk_M_224 rfl hv1 rfl rfl (Nat.le_of_ble_eq_true rfl) ⟨by decide, by decide⟩ ⟨by decide, by decide⟩ (fun v9 w9 hp => ?_)
  obtain ⟨rfl, rfl⟩ := hp
  obtain ⟨j3, hj3, ho3⟩ := Option.bind_eq_some_iff.mp hm
  clear hm
  have hJ3 : aj_J Γ 5 (0, 0) 16 [(0, aRf o), (1, aI p1), (2, aI p2), (3, aI p3), (4, aI p4)] [aI j3, aRf o] w := by
    clear hj3
    have hm := ho3
    clear ho3
    obtain ⟨v4, hv4, hm⟩ := Option.bind_eq_some_iff.mp hm
    refine j_pV (ty := aY_M 0) G d_M_spoil_16 fl_M_63 ac_M (aw_T_of_M 0 (by decide) rfl) rfl rfl hv4 ?_
    refine j_aload_n G d_M_spoil_19 rfl ?_
    obtain ⟨v5, hv5, hm⟩ := Option.bind_eq_some_iff.mp hm
    refine j_gI G d_M_spoil_20 fl_M_63 hv5 ?_
    refine j_if_le (tgt := 27) G d_M_spoil_23 rfl (fun hc => ?_) (fun hc => ?_)
    · rw [if_pos hc] at hm
      refine j_iload_n G d_M_spoil_27 rfl ?_
      obtain ⟨j6, hj6, ho6⟩ := Option.bind_eq_some_iff.mp hm
      clear hm
      have hJ6 : aj_J Γ 5 (0, 0) 92 [] [] j6 := by
        clear hj6
        have hm := ho6
        clear ho6
        obtain rfl := Option.some.inj hm
        exact j_vret G E d_M_spoil_92 ⟨by decide, by decide⟩ ⟨rfl, rfl⟩
      clear ho6
      have hm := hj6
      clear hj6
      refine j_if_eq (tgt := 63) G d_M_spoil_28 rfl (fun hc => ?_) (fun hc => ?_)
      · rw [if_pos hc] at hm
        refine j_aload_n G d_M_spoil_63 rfl ?_
        obtain ⟨v7, hv7, hm⟩ := Option.bind_eq_some_iff.mp hm
        refine j_gR G d_M_spoil_64 fl_M_19 hv7 ?_
        refine j_bipush (v := 100) G d_M_spoil_67 (by decide) ?_
        refine j_iload_n G d_M_spoil_69 rfl ?_
        refine j_imul G d_M_spoil_70 ?_
        refine j_iload_n G d_M_spoil_71 rfl ?_
        refine j_iadd G d_M_spoil_72 ?_
        refine j_aload_n G d_M_spoil_73 rfl ?_
        obtain ⟨v8, hv8, hm⟩ := Option.bind_eq_some_iff.mp hm
        refine j_gR G d_M_spoil_74 fl_M_19 hv8 ?_
        refine j_bipush (v := 100) G d_M_spoil_77 (by decide) ?_
        refine j_iload_n G d_M_spoil_79 rfl ?_
        refine j_imul G d_M_spoil_80 ?_
        refine j_iload_n G d_M_spoil_81 rfl ?_
        refine j_iadd G d_M_spoil_82 ?_
        obtain ⟨v9, hv9, hm⟩ := Option.bind_eq_some_iff.mp hm
        refine j_iald G d_M_spoil_83 hv9 ?_
        refine j_iload G d_M_spoil_84 rfl ?_
        refine j_sipush (v := 255) G d_M_spoil_86 (by decide) ?_
        refine j_iand G d_M_spoil_89 ?_
        refine j_ixor G d_M_spoil_90 ?_
        obtain ⟨v10, hv10, hm⟩ := Option.bind_eq_some_iff.mp hm
        refine j_iast G d_M_spoil_91 hv10 ?_
        obtain rfl := Option.some.inj hm
        refine j_lv [] rfl ?_
        exact hJ6
      · rw [if_neg hc] at hm
        refine j_aload_n G d_M_spoil_31 rfl ?_
        obtain ⟨v11, hv11, hm⟩ := Option.bind_eq_some_iff.mp hm
        refine j_gR G d_M_spoil_32 fl_M_29 hv11 ?_
        refine j_bipush (v := 120) G d_M_spoil_35 (by decide) ?_
        refine j_iload_n G d_M_spoil_37 rfl ?_
        refine j_imul G d_M_spoil_38 ?_
        refine j_iload_n G d_M_spoil_39 rfl ?_
        refine j_iadd G d_M_spoil_40 ?_
        refine j_aload_n G d_M_spoil_41 rfl ?_
        obtain ⟨v12, hv12, hm⟩ := Option.bind_eq_some_iff.mp hm
        refine j_gR G d_M_spoil_42 fl_M_29 hv12 ?_
        refine j_bipush (v := 120) G d_M_spoil_45 (by decide) ?_
        refine j_iload_n G d_M_spoil_47 rfl ?_
        refine j_imul G d_M_spoil_48 ?_
        refine j_iload_n G d_M_spoil_49 rfl ?_
        refine j_iadd G d_M_spoil_50 ?_
        obtain ⟨v13, hv13, hm⟩ := Option.bind_eq_some_iff.mp hm
        refine j_iald G d_M_spoil_51 hv13 ?_
        refine j_iload G d_M_spoil_52 rfl ?_
        refine j_sipush (v := 255) G d_M_spoil_54 (by decide) ?_
        refine j_iand G d_M_spoil_57 ?_
        refine j_ixor G d_M_spoil_58 ?_
        obtain ⟨v14, hv14, hm⟩ := Option.bind_eq_some_iff.mp hm
        refine j_iast G d_M_spoil_59 hv14 ?_
        refine j_goto (tgt := 92) G d_M_spoil_60 rfl ?_
        obtain rfl := Option.some.inj hm
        refine j_lv [] rfl ?_
        exact hJ6
    · rw [if_neg hc] at hm
      obtain rfl := Option.some.inj hm
      exact j_vret G E d_M_spoil_26 ⟨by decide, by decide⟩ ⟨rfl, rfl⟩
  clear ho3
  have hm := hj3
  clear hj3
  refine j_if_eq (tgt := 15) G d_M_spoil_8 rfl (fun hc => ?_) (fun hc => ?_)
  · rw [if_pos hc] at hm
    refine j_iconst (v := 1) G d_M_spoil_15 (by decide) ?_
    obtain rfl := Option.some.inj hm
    refine j_lv [(0, aRf o), (1, aI p1), (2, aI p2), (3, aI p3), (4, aI p4)] rfl ?_
    exact hJ3
  · rw [if_neg hc] at hm
    refine j_iconst (v := 0) G d_M_spoil_11 (by decide) ?_
    refine j_goto (tgt := 16) G d_M_spoil_12 rfl ?_
    obtain rfl := Option.some.inj hm
    refine j_lv [(0, aRf o), (1, aI p1), (2, aI p2), (3, aI p3), (4, aI p4)] rfl ?_
    exact hJ3
