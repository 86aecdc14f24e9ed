noncomputable def f_O_init (w : aw_W) (o : Option Nat) (p1 : Int32) : Option (aw_W) :=
  (o).bind fun v1 =>
  (aw_cap p1 104).bind fun v2 =>
  (w.1).bind fun v3 =>
  (aw_pV (aw_add w v3 (.inl (0, (v2, .inl (fun _ => 0))))) o 3 0 (va_rf (some v3))).bind fun v4 =>
  (aw_pV v4 o 3 1 (.int (0 : Int32))).bind fun v5 =>
  some v5
abbrev rm_O_init : Room := { frames := 1, cells := 1, slots := 104, locals := 12 }
set_option maxRecDepth 100000 in
set_option maxHeartbeats 4000000 in
theorem c_O_init (l : Launch) (hl : l.stackTraces = false) (D : va_G) (dA : Nat → ClassId) (base : Nat) (w : aw_W) (o : Option Nat) (p1 : Int32) (r : aw_W) (hm : f_O_init w o p1 = some r) : aj_Ct l D dA base m_O_init rm_O_init [aRf o, aI p1] w (fun v w' => none = v ∧ r = w') := by
  refine aj_enter hl (by decide) (Nat.le_of_ble_eq_true rfl) ?_
  intro Γ G E
  unfold f_O_init at hm
  refine j_aload_n G d_O_init_0 rfl ?_
  obtain ⟨v1, hv1, hm⟩ := Option.bind_eq_some_iff.mp hm
  refine j_objInitR G d_O_init_1 wd_1_44 wd_1_24 wd_1_25 ⟨by decide, Nat.le_of_ble_eq_true rfl⟩ hv1 ?_
  refine j_aload_n G d_O_init_4 rfl ?_
  refine j_iload_n G d_O_init_5 rfl ?_
  obtain ⟨v2, hv2, hm⟩ := Option.bind_eq_some_iff.mp hm
  obtain ⟨v3, hv3, hm⟩ := Option.bind_eq_some_iff.mp hm
  refine j_newa (t := 0) (N := v2) (ty := .byte) (a0 := (v2, .inl (fun _ => 0))) G d_O_init_6 wd_1_52 rfl ((G.K.1.2 0 _ rfl).2) (fun cA => by rw [vp_cell_i]; rfl) (aw_cap_some hv2).1 (aw_cap_some hv2).2.1 (Nat.le_trans (Nat.mul_le_mul_right _ (aw_cap_some hv2).2.2) (by decide)) hv3 ⟨by decide, Nat.le_trans (Nat.add_le_add_left (aw_cap_some hv2).2.2 _) (by decide)⟩ ?_
  refine j_wide (1, 104) (Nat.le_of_ble_eq_true rfl) (Nat.add_le_add_left (aw_cap_some hv2).2.2 _) ?_
  obtain ⟨v4, hv4, hm⟩ := Option.bind_eq_some_iff.mp hm
  refine j_pF (ty := aY_O 0) G d_O_init_8 fl_O_7 ac_O (aw_T_of_O 0 (by decide) rfl) rfl rfl (by rintro _ _ _ ⟨⟩; exact wd_1_45) (aw_nA _ _) (aw_fA _ _) hv4 ?_
  refine j_aload_n G d_O_init_11 rfl ?_
  refine j_iconst (v := 0) G d_O_init_12 (by decide) ?_
  obtain ⟨v5, hv5, hm⟩ := Option.bind_eq_some_iff.mp hm
  refine j_pV (ty := aY_O 1) G d_O_init_13 fl_O_13 ac_O (aw_T_of_O 1 (by decide) rfl) rfl rfl hv5 ?_
  obtain rfl := Option.some.inj hm
  exact j_vret G E d_O_init_16 ⟨by decide, by decide⟩ ⟨rfl, rfl⟩
noncomputable def f_K_missingBits (w : aw_W) (p1 : Int32) : Option (Int32) :=
  some ((8 : Int32) * ((4 : Int32) - p1))
abbrev rm_K_missingBits : Room := { frames := 0, cells := 0, slots := 0, locals := 0 }
set_option maxRecDepth 100000 in
set_option maxHeartbeats 4000000 in
theorem c_K_missingBits (l : Launch) (hl : l.stackTraces = false) (D : va_G) (dA : Nat → ClassId) (base : Nat) (w : aw_W) (p1 : Int32) (r : Int32) (hm : f_K_missingBits w p1 = some r) : aj_Ct l D dA base m_K_missingBits rm_K_missingBits [aI p1] w (fun v w' => some (aI r) = v ∧ w = w') := by
  refine aj_enter hl (by decide) (Nat.le_of_ble_eq_true rfl) ?_
  intro Γ G E
  unfold f_K_missingBits at hm
  refine j_bipush (v := 8) G d_K_missingBits_0 (by decide) ?_
  refine j_iconst (v := 4) G d_K_missingBits_2 (by decide) ?_
  refine j_iload_n G d_K_missingBits_3 rfl ?_
  refine j_isub G d_K_missingBits_4 ?_
  refine j_imul G d_K_missingBits_5 ?_
  obtain rfl := Option.some.inj hm
  exact j_iret G E d_K_missingBits_6 ⟨by decide, by decide⟩ ⟨rfl, rfl⟩
noncomputable def f_K_rank (w : aw_W) (p1 : Int64) (p2 : Int32) : Option (Int64) :=
  (f_K_missingBits w p2).bind fun v1 =>
  some ((aj_lshl (aj_lshl (p1 &&& ((aj_lshl (1 : Int64) ((8 : Int32) * p2)) - (1 : Int64))) v1) (3 : Int32)) ||| p2.toInt64)
abbrev rm_K_rank : Room := { frames := 1, cells := 0, slots := 0, locals := 20 }
set_option maxRecDepth 100000 in
set_option maxHeartbeats 4000000 in
theorem c_K_rank (l : Launch) (hl : l.stackTraces = false) (D : va_G) (dA : Nat → ClassId) (base : Nat) (w : aw_W) (p1 : Int64) (p2 : Int32) (r : Int64) (hm : f_K_rank w p1 p2 = some r) : aj_Ct l D dA base m_K_rank rm_K_rank [aL p1, aI p2] w (fun v w' => some (aL r) = v ∧ w = w') := by
  refine aj_enter hl (by decide) (Nat.le_of_ble_eq_true rfl) ?_
  intro Γ G E
  unfold f_K_rank at hm
  refine j_lload_n G d_K_rank_0 rfl ?_
  refine j_lconst (v := 1) G d_K_rank_1 (by decide) ?_
  refine j_bipush (v := 8) G d_K_rank_2 (by decide) ?_
  refine j_iload_n G d_K_rank_4 rfl ?_
  refine j_imul G d_K_rank_5 ?_
  refine j_lshl G d_K_rank_6 ?_
  refine j_lconst (v := 1) G d_K_rank_7 (by decide) ?_
  refine j_lsub G d_K_rank_8 ?_
  refine j_land G d_K_rank_9 ?_
  refine j_lstore_n G d_K_rank_10 (by decide) ?_
  refine j_lload_n G d_K_rank_11 rfl ?_
  refine j_iload_n G d_K_rank_12 rfl ?_
  obtain ⟨v1, hv1, hm⟩ := Option.bind_eq_some_iff.mp hm
  refine j_callS (As := [aI p2]) G d_K_rank_13 (c_K_missingBits _ G.off _ _ _ _ _ _ hv1) mw_K_missingBits ms_K_missingBits lk_K_7 rfl rfl (Nat.le_of_ble_eq_true rfl) ⟨by decide, by decide⟩ ⟨by decide, by decide⟩ (fun v9 w9 hp => ?_)
  obtain ⟨rfl, rfl⟩ := hp
  refine j_lshl G d_K_rank_16 ?_
  refine j_iconst (v := 3) G d_K_rank_17 (by decide) ?_
  refine j_lshl G d_K_rank_18 ?_
  refine j_iload_n G d_K_rank_19 rfl ?_
  refine j_i2l G d_K_rank_20 ?_
  refine j_lor G d_K_rank_21 ?_
  obtain rfl := Option.some.inj hm
  exact j_lret G E d_K_rank_22 ⟨by decide, by decide⟩ ⟨rfl, rfl⟩
noncomputable def f_K_size (w : aw_W) (p1 : Int64) : Option (Int32) :=
  some ((p1 &&& (7 : Int64)).toInt32)
abbrev rm_K_size : Room := { frames := 0, cells := 0, slots := 0, locals := 0 }
set_option maxRecDepth 100000 in
set_option maxHeartbeats 4000000 in
theorem c_K_size (l : Launch) (hl : l.stackTraces = false) (D : va_G) (dA : Nat → ClassId) (base : Nat) (w : aw_W) (p1 : Int64) (r : Int32) (hm : f_K_size w p1 = some r) : aj_Ct l D dA base m_K_size rm_K_size [aL p1] w (fun v w' => some (aI r) = v ∧ w = w') := by
  refine aj_enter hl (by decide) (Nat.le_of_ble_eq_true rfl) ?_
  intro Γ G E
  unfold f_K_size at hm
  refine j_lload_n G d_K_size_0 rfl ?_
  refine j_ldc2 G d_K_size_1 wd_2_181 ?_
  refine j_land G d_K_size_4 ?_
  refine j_l2i G d_K_size_5 ?_
  obtain rfl := Option.some.inj hm
  exact j_iret G E d_K_size_6 ⟨by decide, by decide⟩ ⟨rfl, rfl⟩
noncomputable def f_Y_valueBytes (w : aw_W) (p1 : Int32) : Option (Int32) :=
  (if p1 = (255 : Int32) then
      some (0 : Int32)
    else
      some p1 : Option (Int32)).bind fun j1 =>
  some j1
abbrev rm_Y_valueBytes : Room := { frames := 0, cells := 0, slots := 0, locals := 0 }
set_option maxRecDepth 100000 in
set_option maxHeartbeats 4000000 in
theorem c_Y_valueBytes (l : Launch) (hl : l.stackTraces = false) (D : va_G) (dA : Nat → ClassId) (base : Nat) (w : aw_W) (p1 : Int32) (r : Int32) (hm : f_Y_valueBytes w p1 = some r) : aj_Ct l D dA base m_Y_valueBytes rm_Y_valueBytes [aI p1] w (fun v w' => some (aI r) = v ∧ w = w') := by
  refine aj_enter hl (by decide) (Nat.le_of_ble_eq_true rfl) ?_
  intro Γ G E
  unfold f_Y_valueBytes at hm
  refine j_iload_n G d_Y_valueBytes_0 rfl ?_
  refine j_sipush (v := 255) G d_Y_valueBytes_1 (by decide) ?_
  obtain ⟨j1, hj1, ho1⟩ := Option.bind_eq_some_iff.mp hm
  clear hm
  have hJ1 : aj_J Γ 1 (0, 0) 12 [] [aI j1] w := by
    clear hj1
    have hm := ho1
    clear ho1
    obtain rfl := Option.some.inj hm
    exact j_iret G E d_Y_valueBytes_12 ⟨by decide, by decide⟩ ⟨rfl, rfl⟩
  clear ho1
  have hm := hj1
  clear hj1
  refine j_icmp_ne (tgt := 11) G d_Y_valueBytes_4 rfl (fun hc => ?_) (fun hc => ?_)
  · rw [if_neg hc] at hm
    refine j_iload_n G d_Y_valueBytes_11 rfl ?_
    obtain rfl := Option.some.inj hm
    refine j_lv [] rfl ?_
    exact hJ1
  · rw [if_pos hc] at hm
    refine j_iconst (v := 0) G d_Y_valueBytes_7 (by decide) ?_
    refine j_goto (tgt := 12) G d_Y_valueBytes_8 rfl ?_
    obtain rfl := Option.some.inj hm
    refine j_lv [] rfl ?_
    exact hJ1
noncomputable def f_Y_recordBytes (w : aw_W) (p1 : Int32) (p2 : Int32) : Option (Int32) :=
  (f_Y_valueBytes w p2).bind fun v1 =>
  some (((8 : Int32) + p1) + v1)
abbrev rm_Y_recordBytes : Room := { frames := 1, cells := 0, slots := 0, locals := 20 }
set_option maxRecDepth 100000 in
set_option maxHeartbeats 4000000 in
theorem c_Y_recordBytes (l : Launch) (hl : l.stackTraces = false) (D : va_G) (dA : Nat → ClassId) (base : Nat) (w : aw_W) (p1 : Int32) (p2 : Int32) (r : Int32) (hm : f_Y_recordBytes w p1 p2 = some r) : aj_Ct l D dA base m_Y_recordBytes rm_Y_recordBytes [aI p1, aI p2] w (fun v w' => some (aI r) = v ∧ w = w') := by
  refine aj_enter hl (by decide) (Nat.le_of_ble_eq_true rfl) ?_
  intro Γ G E
  unfold f_Y_recordBytes at hm
  refine j_bipush (v := 8) G d_Y_recordBytes_0 (by decide) ?_
  refine j_iload_n G d_Y_recordBytes_2 rfl ?_
  refine j_iadd G d_Y_recordBytes_3 ?_
  refine j_iload_n G d_Y_recordBytes_4 rfl ?_
  obtain ⟨v1, hv1, hm⟩ := Option.bind_eq_some_iff.mp hm
  refine j_callS (As := [aI p2]) G d_Y_recordBytes_5 (c_Y_valueBytes _ G.off _ _ _ _ _ _ hv1) mw_Y_valueBytes ms_Y_valueBytes lk_Y_9 rfl rfl (Nat.le_of_ble_eq_true rfl) ⟨by decide, by decide⟩ ⟨by decide, by decide⟩ (fun v9 w9 hp => ?_)
  obtain ⟨rfl, rfl⟩ := hp
  refine j_iadd G d_Y_recordBytes_8 ?_
  obtain rfl := Option.some.inj hm
  exact j_iret G E d_Y_recordBytes_9 ⟨by decide, by decide⟩ ⟨rfl, rfl⟩
noncomputable def f_O_hasRoomFor (w : aw_W) (o : Option Nat) (p1 : Int32) : Option (Int32) :=
  (aw_gI w o 3 1).bind fun v1 =>
  (aw_gR w o 3 0).bind fun v2 =>
  (aw_len w v2 0).bind fun v3 =>
  (if v3 < (v1 + p1) then
      some (0 : Int32)
    else
      some (1 : Int32) : Option (Int32)).bind fun j4 =>
  (aw_zz j4).bind fun v5 =>
  some j4
abbrev rm_O_hasRoomFor : Room := { frames := 0, cells := 0, slots := 0, locals := 0 }
set_option maxRecDepth 100000 in
set_option maxHeartbeats 4000000 in
theorem c_O_hasRoomFor (l : Launch) (hl : l.stackTraces = false) (D : va_G) (dA : Nat → ClassId) (base : Nat) (w : aw_W) (o : Option Nat) (p1 : Int32) (r : Int32) (hm : f_O_hasRoomFor w o p1 = some r) : aj_Ct l D dA base m_O_hasRoomFor rm_O_hasRoomFor [aRf o, aI p1] w (fun v w' => some (aI r) = v ∧ w = w') := by
  refine aj_enter hl (by decide) (Nat.le_of_ble_eq_true rfl) ?_
  intro Γ G E
  unfold f_O_hasRoomFor at hm
  refine j_aload_n G d_O_hasRoomFor_0 rfl ?_
  obtain ⟨v1, hv1, hm⟩ := Option.bind_eq_some_iff.mp hm
  refine j_gI G d_O_hasRoomFor_1 fl_O_13 hv1 ?_
  refine j_iload_n G d_O_hasRoomFor_4 rfl ?_
  refine j_iadd G d_O_hasRoomFor_5 ?_
  refine j_aload_n G d_O_hasRoomFor_6 rfl ?_
  obtain ⟨v2, hv2, hm⟩ := Option.bind_eq_some_iff.mp hm
  refine j_gR G d_O_hasRoomFor_7 fl_O_7 hv2 ?_
  obtain ⟨v3, hv3, hm⟩ := Option.bind_eq_some_iff.mp hm
  refine j_alen G d_O_hasRoomFor_10 rfl hv3 ?_
  obtain ⟨j4, hj4, ho4⟩ := Option.bind_eq_some_iff.mp hm
  clear hm
  have hJ4 : aj_J Γ 2 (0, 0) 19 [] [aI j4] w := by
    clear hj4
    have hm := ho4
    clear ho4
    obtain ⟨v5, hv5, hm⟩ := Option.bind_eq_some_iff.mp hm
    obtain rfl := Option.some.inj hm
    exact j_zret G E d_O_hasRoomFor_19 ⟨by decide, by decide⟩ (aw_zz_some hv5) ⟨rfl, rfl⟩
  clear ho4
  have hm := hj4
  clear hj4
  refine j_icmp_gt (tgt := 18) G d_O_hasRoomFor_11 rfl (fun hc => ?_) (fun hc => ?_)
  · rw [if_pos hc] at hm
    refine j_iconst (v := 0) G d_O_hasRoomFor_18 (by decide) ?_
    obtain rfl := Option.some.inj hm
    refine j_lv [] rfl ?_
    exact hJ4
  · rw [if_neg hc] at hm
    refine j_iconst (v := 1) G d_O_hasRoomFor_14 (by decide) ?_
    refine j_goto (tgt := 19) G d_O_hasRoomFor_15 rfl ?_
    obtain rfl := Option.some.inj hm
    refine j_lv [] rfl ?_
    exact hJ4
noncomputable def f_O_size (w : aw_W) (o : Option Nat) : Option (Int32) :=
  (aw_gI w o 3 1).bind fun v1 =>
  some v1
abbrev rm_O_size : Room := { frames := 0, cells := 0, slots := 0, locals := 0 }
set_option maxRecDepth 100000 in
set_option maxHeartbeats 4000000 in
theorem c_O_size (l : Launch) (hl : l.stackTraces = false) (D : va_G) (dA : Nat → ClassId) (base : Nat) (w : aw_W) (o : Option Nat) (r : Int32) (hm : f_O_size w o = some r) : aj_Ct l D dA base m_O_size rm_O_size [aRf o] w (fun v w' => some (aI r) = v ∧ w = w') := by
  refine aj_enter hl (by decide) (Nat.le_of_ble_eq_true rfl) ?_
  intro Γ G E
  unfold f_O_size at hm
  refine j_aload_n G d_O_size_0 rfl ?_
  obtain ⟨v1, hv1, hm⟩ := Option.bind_eq_some_iff.mp hm
  refine j_gI G d_O_size_1 fl_O_13 hv1 ?_
  obtain rfl := Option.some.inj hm
  exact j_iret G E d_O_size_4 ⟨by decide, by decide⟩ ⟨rfl, rfl⟩
noncomputable def f_O_cutTo (w : aw_W) (o : Option Nat) (p1 : Int32) : Option (aw_W) :=
  (if p1 < 0 then
      some w
    else
      (aw_gI w o 3 1).bind fun v1 =>
      if v1 ≤ p1 then
        some w
      else
        (aw_pV w o 3 1 (.int p1)).bind fun v2 =>
        some v2 : Option (aw_W)).bind fun j3 =>
  some j3
abbrev rm_O_cutTo : Room := { frames := 0, cells := 0, slots := 0, locals := 0 }
set_option maxRecDepth 100000 in
set_option maxHeartbeats 4000000 in
theorem c_O_cutTo (l : Launch) (hl : l.stackTraces = false) (D : va_G) (dA : Nat → ClassId) (base : Nat) (w : aw_W) (o : Option Nat) (p1 : Int32) (r : aw_W) (hm : f_O_cutTo w o p1 = some r) : aj_Ct l D dA base m_O_cutTo rm_O_cutTo [aRf o, aI p1] w (fun v w' => none = v ∧ r = w') := by
  refine aj_enter hl (by decide) (Nat.le_of_ble_eq_true rfl) ?_
  intro Γ G E
  unfold f_O_cutTo at hm
  refine j_iload_n G d_O_cutTo_0 rfl ?_
  obtain ⟨j1, hj1, ho1⟩ := Option.bind_eq_some_iff.mp hm
  clear hm
  have hJ1 : aj_J Γ 2 (0, 0) 17 [] [] j1 := by
    clear hj1
    have hm := ho1
    clear ho1
    obtain rfl := Option.some.inj hm
    exact j_vret G E d_O_cutTo_17 ⟨by decide, by decide⟩ ⟨rfl, rfl⟩
  clear ho1
  have hm := hj1
  clear hj1
  refine j_if_lt (tgt := 17) G d_O_cutTo_1 rfl (fun hc => ?_) (fun hc => ?_)
  · rw [if_pos hc] at hm
    obtain rfl := Option.some.inj hm
    refine j_lv [] rfl ?_
    exact hJ1
  · rw [if_neg hc] at hm
    refine j_iload_n G d_O_cutTo_4 rfl ?_
    refine j_aload_n G d_O_cutTo_5 rfl ?_
    obtain ⟨v2, hv2, hm⟩ := Option.bind_eq_some_iff.mp hm
    refine j_gI G d_O_cutTo_6 fl_O_13 hv2 ?_
    refine j_icmp_ge (tgt := 17) G d_O_cutTo_9 rfl (fun hc => ?_) (fun hc => ?_)
    · rw [if_pos hc] at hm
      obtain rfl := Option.some.inj hm
      refine j_lv [] rfl ?_
      exact hJ1
    · rw [if_neg hc] at hm
      refine j_aload_n G d_O_cutTo_12 rfl ?_
      refine j_iload_n G d_O_cutTo_13 rfl ?_
      obtain ⟨v3, hv3, hm⟩ := Option.bind_eq_some_iff.mp hm
      refine j_pV (ty := aY_O 1) G d_O_cutTo_14 fl_O_13 ac_O (aw_T_of_O 1 (by decide) rfl) rfl rfl hv3 ?_
      obtain rfl := Option.some.inj hm
      refine j_lv [] rfl ?_
      exact hJ1
noncomputable def f_O_addByte (w : aw_W) (o : Option Nat) (p1 : Int32) : Option (aw_W) :=
  (aw_gI w o 3 1).bind fun v1 =>
  (aw_gR w o 3 0).bind fun v2 =>
  (aw_len w v2 0).bind fun v3 =>
  (if v3 ≤ v1 then
      some w
    else
      (aw_gR w o 3 0).bind fun v4 =>
      (aw_gI w o 3 1).bind fun v5 =>
      (aw_sI w v4 0 v5 p1.toInt8.toInt32.toInt8.toInt32).bind fun v6 =>
      (aw_gI v6 o 3 1).bind fun v7 =>
      (aw_pV v6 o 3 1 (.int (v7 + (1 : Int32)))).bind fun v8 =>
      some v8 : Option (aw_W)).bind fun j9 =>
  some j9
abbrev rm_O_addByte : Room := { frames := 0, cells := 0, slots := 0, locals := 0 }
set_option maxRecDepth 100000 in
set_option maxHeartbeats 4000000 in
theorem c_O_addByte (l : Launch) (hl : l.stackTraces = false) (D : va_G) (dA : Nat → ClassId) (base : Nat) (w : aw_W) (o : Option Nat) (p1 : Int32) (r : aw_W) (hm : f_O_addByte w o p1 = some r) : aj_Ct l D dA base m_O_addByte rm_O_addByte [aRf o, aI p1] w (fun v w' => none = v ∧ r = w') := by
  refine aj_enter hl (by decide) (Nat.le_of_ble_eq_true rfl) ?_
  intro Γ G E
  unfold f_O_addByte at hm
  refine j_aload_n G d_O_addByte_0 rfl ?_
  obtain ⟨v1, hv1, hm⟩ := Option.bind_eq_some_iff.mp hm
  refine j_gI G d_O_addByte_1 fl_O_13 hv1 ?_
  refine j_aload_n G d_O_addByte_4 rfl ?_
  obtain ⟨v2, hv2, hm⟩ := Option.bind_eq_some_iff.mp hm
  refine j_gR G d_O_addByte_5 fl_O_7 hv2 ?_
  obtain ⟨v3, hv3, hm⟩ := Option.bind_eq_some_iff.mp hm
  refine j_alen G d_O_addByte_8 rfl hv3 ?_
  obtain ⟨j4, hj4, ho4⟩ := Option.bind_eq_some_iff.mp hm
  clear hm
  have hJ4 : aj_J Γ 2 (0, 0) 33 [] [] j4 := by
    clear hj4
    have hm := ho4
    clear ho4
    obtain rfl := Option.some.inj hm
    exact j_vret G E d_O_addByte_33 ⟨by decide, by decide⟩ ⟨rfl, rfl⟩
  clear ho4
  have hm := hj4
  clear hj4
  refine j_icmp_ge (tgt := 33) G d_O_addByte_9 rfl (fun hc => ?_) (fun hc => ?_)
  · rw [if_pos hc] at hm
    obtain rfl := Option.some.inj hm
    refine j_lv [] rfl ?_
    exact hJ4
  · rw [if_neg hc] at hm
    refine j_aload_n G d_O_addByte_12 rfl ?_
    obtain ⟨v5, hv5, hm⟩ := Option.bind_eq_some_iff.mp hm
    refine j_gR G d_O_addByte_13 fl_O_7 hv5 ?_
    refine j_aload_n G d_O_addByte_16 rfl ?_
    obtain ⟨v6, hv6, hm⟩ := Option.bind_eq_some_iff.mp hm
    refine j_gI G d_O_addByte_17 fl_O_13 hv6 ?_
    refine j_iload_n G d_O_addByte_20 rfl ?_
    refine j_i2b G d_O_addByte_21 ?_
    obtain ⟨v7, hv7, hm⟩ := Option.bind_eq_some_iff.mp hm
    refine j_bast G d_O_addByte_22 hv7 ?_
    refine j_aload_n G d_O_addByte_23 rfl ?_
    refine j_dup G d_O_addByte_24 rfl ?_
    obtain ⟨v8, hv8, hm⟩ := Option.bind_eq_some_iff.mp hm
    refine j_gI G d_O_addByte_25 fl_O_13 hv8 ?_
    refine j_iconst (v := 1) G d_O_addByte_28 (by decide) ?_
    refine j_iadd G d_O_addByte_29 ?_
    obtain ⟨v9, hv9, hm⟩ := Option.bind_eq_some_iff.mp hm
    refine j_pV (ty := aY_O 1) G d_O_addByte_30 fl_O_13 ac_O (aw_T_of_O 1 (by decide) rfl) rfl rfl hv9 ?_
    obtain rfl := Option.some.inj hm
    refine j_lv [] rfl ?_
    exact hJ4
noncomputable def f_O_addNumber (w : aw_W) (o : Option Nat) (p1 : Int64) (p2 : Int32) : Option (aw_W) :=
  (aw_wh (σ := Int32 × aw_W) (τ := Int32 × aw_W) (fun s1 =>
    if s1.1 < 0 then
      some (.inr (s1.1, s1.2))
    else
      (aw_obj s1.2 o 3).bind fun v2 =>
      (f_O_addByte s1.2 o ((aj_lushr p1 ((8 : Int32) * s1.1)).toInt32)).bind fun v3 =>
      some (.inl (s1.1 + (-1), v3))) (p2 - (1 : Int32), w)).bind fun e4 =>
  some e4.2
abbrev rm_O_addNumber : Room := { frames := 1, cells := 0, slots := 0, locals := 21 }
set_option maxRecDepth 100000 in
set_option maxHeartbeats 4000000 in
theorem c_O_addNumber (l : Launch) (hl : l.stackTraces = false) (D : va_G) (dA : Nat → ClassId) (base : Nat) (w : aw_W) (o : Option Nat) (p1 : Int64) (p2 : Int32) (r : aw_W) (hm : f_O_addNumber w o p1 p2 = some r) : aj_Ct l D dA base m_O_addNumber rm_O_addNumber [aRf o, aL p1, aI p2] w (fun v w' => none = v ∧ r = w') := by
  refine aj_enter hl (by decide) (Nat.le_of_ble_eq_true rfl) ?_
  intro Γ G E
  unfold f_O_addNumber at hm
  refine j_iload_n G d_O_addNumber_0 rfl ?_
  refine j_iconst (v := 1) G d_O_addNumber_1 (by decide) ?_
  refine j_isub G d_O_addNumber_2 ?_
  refine j_istore G d_O_addNumber_3 (by decide) ?_
  obtain ⟨e1, he1, ho1⟩ := Option.bind_eq_some_iff.mp hm
  clear hm
  refine j_lv [(0, aRf o), (1, aL p1), (4, aI (p2 - (1 : Int32)))] rfl ?_
  refine aw_wh_elim (fun (s : Int32 × aw_W) => aj_J Γ 5 (0, 0) 5 [(0, aRf o), (1, aL p1), (4, aI s.1)] [] s.2) ?_ he1
  intro s1 x1 hm hin1 hout1
  try dsimp only at hm ⊢
  refine j_iload G d_O_addNumber_5 rfl ?_
  refine j_if_lt (tgt := 28) G d_O_addNumber_7 rfl (fun hc => ?_) (fun hc => ?_)
  · rw [if_pos hc] at hm
    have q1 := hout1 _ (Option.some.inj hm).symm
    clear hin1 hout1
    subst q1
    clear hm
    have hm := ho1
    clear ho1
    try dsimp only at hm
    obtain rfl := Option.some.inj hm
    exact j_vret G E d_O_addNumber_28 ⟨by decide, by decide⟩ ⟨rfl, rfl⟩
  · rw [if_neg hc] at hm
    refine j_aload_n G d_O_addNumber_10 rfl ?_
    refine j_lload_n G d_O_addNumber_11 rfl ?_
    refine j_bipush (v := 8) G d_O_addNumber_12 (by decide) ?_
    refine j_iload G d_O_addNumber_14 rfl ?_
    refine j_imul G d_O_addNumber_16 ?_
    refine j_lushr G d_O_addNumber_17 ?_
    refine j_l2i G d_O_addNumber_18 ?_
    obtain ⟨v2, hv2, hm⟩ := Option.bind_eq_some_iff.mp hm
    obtain ⟨v3, hv3, hm⟩ := Option.bind_eq_some_iff.mp hm
    refine j_callV (As := [aI ((aj_lushr p1 ((8 : Int32) * s1.1)).toInt32)]) G d_O_addNumber_19 (c_O_addByte _ G.off _ _ _ _ _ _ _ hv3) mw_O_addByte mi_O_addByte lk_O_21 rfl hv2 rfl rfl (Nat.le_of_ble_eq_true rfl) ⟨by decide, by decide⟩ ⟨by decide, by decide⟩ (fun v9 w9 hp => ?_)
    obtain ⟨rfl, rfl⟩ := hp
    refine j_iinc (v := s1.1 + (-1)) G d_O_addNumber_22 rfl (by first | rfl | decide) (by decide) ?_
    refine j_goto (tgt := 5) G d_O_addNumber_25 rfl ?_
    refine j_lv [(0, aRf o), (1, aL p1), (4, aI (s1.1 + (-1)))] rfl ?_
    have z9 := hin1 _ (Option.some.inj hm).symm
    exact z9
noncomputable def f_K_number (w : aw_W) (p1 : Int64) : Option (Int64) :=
  (f_K_size w p1).bind fun v1 =>
  (f_K_missingBits w v1).bind fun v2 =>
  some (aj_lushr (aj_lushr p1 (3 : Int32)) v2)
abbrev rm_K_number : Room := { frames := 1, cells := 0, slots := 0, locals := 21 }
set_option maxRecDepth 100000 in
set_option maxHeartbeats 4000000 in
theorem c_K_number (l : Launch) (hl : l.stackTraces = false) (D : va_G) (dA : Nat → ClassId) (base : Nat) (w : aw_W) (p1 : Int64) (r : Int64) (hm : f_K_number w p1 = some r) : aj_Ct l D dA base m_K_number rm_K_number [aL p1] w (fun v w' => some (aL r) = v ∧ w = w') := by
  refine aj_enter hl (by decide) (Nat.le_of_ble_eq_true rfl) ?_
  intro Γ G E
  unfold f_K_number at hm
  refine j_lload_n G d_K_number_0 rfl ?_
  refine j_iconst (v := 3) G d_K_number_1 (by decide) ?_
  refine j_lushr G d_K_number_2 ?_
  refine j_lload_n G d_K_number_3 rfl ?_
  obtain ⟨v1, hv1, hm⟩ := Option.bind_eq_some_iff.mp hm
  refine j_callS (As := [aL p1]) G d_K_number_4 (c_K_size _ G.off _ _ _ _ _ _ hv1) mw_K_size ms_K_size lk_K_15 rfl rfl (Nat.le_of_ble_eq_true rfl) ⟨by decide, by decide⟩ ⟨by decide, by decide⟩ (fun v9 w9 hp => ?_)
  obtain ⟨rfl, rfl⟩ := hp
  obtain ⟨v2, hv2, hm⟩ := Option.bind_eq_some_iff.mp hm
  refine j_callS (As := [aI v1]) G d_K_number_7 (c_K_missingBits _ G.off _ _ _ _ _ _ hv2) mw_K_missingBits ms_K_missingBits lk_K_7 rfl rfl (Nat.le_of_ble_eq_true rfl) ⟨by decide, by decide⟩ ⟨by decide, by decide⟩ (fun v9 w9 hp => ?_)
  obtain ⟨rfl, rfl⟩ := hp
  refine j_lushr G d_K_number_10 ?_
  obtain rfl := Option.some.inj hm
  exact j_lret G E d_K_number_11 ⟨by decide, by decide⟩ ⟨rfl, rfl⟩
noncomputable def f_O_at (w : aw_W) (o : Option Nat) (p1 : Int32) : Option (Int32) :=
  (if p1 < 0 then
      some (0 : Int32)
    else
      (aw_gI w o 3 1).bind fun v1 =>
      if v1 ≤ p1 then
        some (0 : Int32)
      else
        (aw_gR w o 3 0).bind fun v2 =>
        (aw_aI w v2 0 p1).bind fun v3 =>
        some (v3 &&& (255 : Int32)) : Option (Int32)).bind fun j4 =>
  some j4
abbrev rm_O_at : Room := { frames := 0, cells := 0, slots := 0, locals := 0 }
set_option maxRecDepth 100000 in
set_option maxHeartbeats 4000000 in
theorem c_O_at (l : Launch) (hl : l.stackTraces = false) (D : va_G) (dA : Nat → ClassId) (base : Nat) (w : aw_W) (o : Option Nat) (p1 : Int32) (r : Int32) (hm : f_O_at w o p1 = some r) : aj_Ct l D dA base m_O_at rm_O_at [aRf o, aI p1] w (fun v w' => some (aI r) = v ∧ w = w') := by
  refine aj_enter hl (by decide) (Nat.le_of_ble_eq_true rfl) ?_
  intro Γ G E
  unfold f_O_at at hm
  refine j_iload_n G d_O_at_0 rfl ?_
  obtain ⟨j1, hj1, ho1⟩ := Option.bind_eq_some_iff.mp hm
  clear hm
  have hJ1 : aj_J Γ 2 (0, 0) 26 [] [aI j1] w := by
    clear hj1
    have hm := ho1
    clear ho1
    obtain rfl := Option.some.inj hm
    exact j_iret G E d_O_at_26 ⟨by decide, by decide⟩ ⟨rfl, rfl⟩
  clear ho1
  have hm := hj1
  clear hj1
  refine j_if_lt (tgt := 25) G d_O_at_1 rfl (fun hc => ?_) (fun hc => ?_)
  · rw [if_pos hc] at hm
    refine j_iconst (v := 0) G d_O_at_25 (by decide) ?_
    obtain rfl := Option.some.inj hm
    refine j_lv [] rfl ?_
    exact hJ1
  · rw [if_neg hc] at hm
    refine j_iload_n G d_O_at_4 rfl ?_
    refine j_aload_n G d_O_at_5 rfl ?_
    obtain ⟨v2, hv2, hm⟩ := Option.bind_eq_some_iff.mp hm
    refine j_gI G d_O_at_6 fl_O_13 hv2 ?_
    refine j_icmp_ge (tgt := 25) G d_O_at_9 rfl (fun hc => ?_) (fun hc => ?_)
    · rw [if_pos hc] at hm
      refine j_iconst (v := 0) G d_O_at_25 (by decide) ?_
      obtain rfl := Option.some.inj hm
      refine j_lv [] rfl ?_
      exact hJ1
    · rw [if_neg hc] at hm
      refine j_aload_n G d_O_at_12 rfl ?_
      obtain ⟨v3, hv3, hm⟩ := Option.bind_eq_some_iff.mp hm
      refine j_gR G d_O_at_13 fl_O_7 hv3 ?_
      refine j_iload_n G d_O_at_16 rfl ?_
      obtain ⟨v4, hv4, hm⟩ := Option.bind_eq_some_iff.mp hm
      refine j_bald G d_O_at_17 hv4 ?_
      refine j_sipush (v := 255) G d_O_at_18 (by decide) ?_
      refine j_iand G d_O_at_21 ?_
      refine j_goto (tgt := 26) G d_O_at_22 rfl ?_
      obtain rfl := Option.some.inj hm
      refine j_lv [] rfl ?_
      exact hJ1
noncomputable def f_O_sum (w : aw_W) (o : Option Nat) (p1 : Int32) (p2 : Int32) : Option (Int64) :=
  (aw_wh (σ := Int32 × Int32) (τ := Int32 × Int32) (fun s1 =>
    if p2 ≤ s1.2 then
      some (.inr (s1.1, s1.2))
    else
      (aw_obj w o 3).bind fun v2 =>
      (f_O_at w o s1.2).bind fun v3 =>
      (aw_wh (σ := Int32 × Int32) (τ := Int32 × Int32) (fun s4 =>
        if (8 : Int32) ≤ s4.2 then
          some (.inr (s4.1, s4.2))
        else
          (if (s4.1 &&& (1 : Int32)) = 0 then
              some (aj_ushr s4.1 (1 : Int32))
            else
              some ((aj_ushr s4.1 (1 : Int32)) ^^^ (-306674912 : Int32)) : Option (Int32)).bind fun j5 =>
          some (.inl (j5, s4.2 + 1))) (s1.1 ^^^ v3, (0 : Int32))).bind fun e6 =>
      some (.inl (e6.1, s1.2 + 1))) ((-1 : Int32), p1)).bind fun e7 =>
  some (((e7.1 ^^^ (-1 : Int32)).toInt64) &&& (4294967295 : Int64))
abbrev rm_O_sum : Room := { frames := 1, cells := 0, slots := 0, locals := 21 }
set_option maxRecDepth 100000 in
set_option maxHeartbeats 4000000 in
theorem c_O_sum (l : Launch) (hl : l.stackTraces = false) (D : va_G) (dA : Nat → ClassId) (base : Nat) (w : aw_W) (o : Option Nat) (p1 : Int32) (p2 : Int32) (r : Int64) (hm : f_O_sum w o p1 p2 = some r) : aj_Ct l D dA base m_O_sum rm_O_sum [aRf o, aI p1, aI p2] w (fun v w' => some (aL r) = v ∧ w = w') := by
  refine aj_enter hl (by decide) (Nat.le_of_ble_eq_true rfl) ?_
  intro Γ G E
  unfold f_O_sum at hm
  refine j_iconst (v := -1) G d_O_sum_0 (by decide) ?_
  refine j_istore_n G d_O_sum_1 (by decide) ?_
  refine j_iload_n G d_O_sum_2 rfl ?_
  refine j_istore G d_O_sum_3 (by decide) ?_
  obtain ⟨e1, he1, ho1⟩ := Option.bind_eq_some_iff.mp hm
  clear hm
  refine j_lv [(0, aRf o), (2, aI p2), (3, aI (-1 : Int32)), (4, aI p1)] rfl ?_
  refine aw_wh_elim (fun (s : Int32 × Int32) => aj_J Γ 6 (0, 0) 5 [(0, aRf o), (2, aI p2), (3, aI s.1), (4, aI s.2)] [] w) ?_ he1
  intro s1 x1 hm hin1 hout1
  try dsimp only at hm ⊢
  refine j_iload G d_O_sum_5 rfl ?_
  refine j_iload_n G d_O_sum_7 rfl ?_
  refine j_icmp_ge (tgt := 61) G d_O_sum_8 rfl (fun hc => ?_) (fun hc => ?_)
  · rw [if_pos hc] at hm
    have q1 := hout1 _ (Option.some.inj hm).symm
    clear hin1 hout1
    subst q1
    clear hm
    have hm := ho1
    clear ho1
    try dsimp only at hm
    refine j_iload_n G d_O_sum_61 rfl ?_
    refine j_iconst (v := -1) G d_O_sum_62 (by decide) ?_
    refine j_ixor G d_O_sum_63 ?_
    refine j_i2l G d_O_sum_64 ?_
    refine j_ldc2 G d_O_sum_65 wd_1_227 ?_
    refine j_land G d_O_sum_68 ?_
    obtain rfl := Option.some.inj hm
    exact j_lret G E d_O_sum_69 ⟨by decide, by decide⟩ ⟨rfl, rfl⟩
  · rw [if_neg hc] at hm
    refine j_iload_n G d_O_sum_11 rfl ?_
    refine j_aload_n G d_O_sum_12 rfl ?_
    refine j_iload G d_O_sum_13 rfl ?_
    obtain ⟨v2, hv2, hm⟩ := Option.bind_eq_some_iff.mp hm
    obtain ⟨v3, hv3, hm⟩ := Option.bind_eq_some_iff.mp hm
    refine j_callV (As := [aI s1.2]) G d_O_sum_15 (c_O_at _ G.off _ _ _ _ _ _ _ hv3) mw_O_at mi_O_at lk_O_25 rfl hv2 rfl rfl (Nat.le_of_ble_eq_true rfl) ⟨by decide, by decide⟩ ⟨by decide, by decide⟩ (fun v9 w9 hp => ?_)
    obtain ⟨rfl, rfl⟩ := hp
    refine j_ixor G d_O_sum_18 ?_
    refine j_istore_n G d_O_sum_19 (by decide) ?_
    refine j_iconst (v := 0) G d_O_sum_20 (by decide) ?_
    refine j_istore G d_O_sum_21 (by decide) ?_
    obtain ⟨e4, he4, ho4⟩ := Option.bind_eq_some_iff.mp hm
    clear hm
    refine j_lv [(0, aRf o), (2, aI p2), (3, aI (s1.1 ^^^ v3)), (4, aI s1.2), (5, aI (0 : Int32))] rfl ?_
    refine aw_wh_elim (fun (s : Int32 × Int32) => aj_J Γ 6 (0, 0) 23 [(0, aRf o), (2, aI p2), (3, aI s.1), (4, aI s1.2), (5, aI s.2)] [] w) ?_ he4
    intro s4 x4 hm hin4 hout4
    try dsimp only at hm ⊢
    refine j_iload G d_O_sum_23 rfl ?_
    refine j_bipush (v := 8) G d_O_sum_25 (by decide) ?_
    refine j_icmp_ge (tgt := 55) G d_O_sum_27 rfl (fun hc => ?_) (fun hc => ?_)
    · rw [if_pos hc] at hm
      have q4 := hout4 _ (Option.some.inj hm).symm
      clear hin4 hout4
      subst q4
      clear hm
      have hm := ho4
      clear ho4
      try dsimp only at hm
      refine j_iinc (v := s1.2 + 1) G d_O_sum_55 rfl (by first | rfl | decide) (by decide) ?_
      refine j_goto (tgt := 5) G d_O_sum_58 rfl ?_
      refine j_lv [(0, aRf o), (2, aI p2), (3, aI s4.1), (4, aI (s1.2 + 1))] rfl ?_
      have z9 := hin1 _ (Option.some.inj hm).symm
      exact z9
    · rw [if_neg hc] at hm
      refine j_iload_n G d_O_sum_30 rfl ?_
      refine j_iconst (v := 1) G d_O_sum_31 (by decide) ?_
      refine j_iand G d_O_sum_32 ?_
      obtain ⟨j5, hj5, ho5⟩ := Option.bind_eq_some_iff.mp hm
      clear hm
      have hJ5 : aj_J Γ 6 (0, 0) 48 [(0, aRf o), (2, aI p2), (4, aI s1.2), (5, aI s4.2)] [aI j5] w := by
        clear hj5
        have hm := ho5
        clear ho5
        refine j_istore_n G d_O_sum_48 (by decide) ?_
        refine j_iinc (v := s4.2 + 1) G d_O_sum_49 rfl (by first | rfl | decide) (by decide) ?_
        refine j_goto (tgt := 23) G d_O_sum_52 rfl ?_
        refine j_lv [(0, aRf o), (2, aI p2), (3, aI j5), (4, aI s1.2), (5, aI (s4.2 + 1))] rfl ?_
        have z9 := hin4 _ (Option.some.inj hm).symm
        exact z9
      clear ho5
      have hm := hj5
      clear hj5
      refine j_if_eq (tgt := 45) G d_O_sum_33 rfl (fun hc => ?_) (fun hc => ?_)
      · rw [if_pos hc] at hm
        refine j_iload_n G d_O_sum_45 rfl ?_
        refine j_iconst (v := 1) G d_O_sum_46 (by decide) ?_
        refine j_iushr G d_O_sum_47 ?_
        obtain rfl := Option.some.inj hm
        refine j_lv [(0, aRf o), (2, aI p2), (4, aI s1.2), (5, aI s4.2)] rfl ?_
        exact hJ5
      · rw [if_neg hc] at hm
        refine j_iload_n G d_O_sum_36 rfl ?_
        refine j_iconst (v := 1) G d_O_sum_37 (by decide) ?_
        refine j_iushr G d_O_sum_38 ?_
        refine j_ldc G d_O_sum_39 wd_1_226 ?_
        refine j_ixor G d_O_sum_41 ?_
        refine j_goto (tgt := 48) G d_O_sum_42 rfl ?_
        obtain rfl := Option.some.inj hm
        refine j_lv [(0, aRf o), (2, aI p2), (4, aI s1.2), (5, aI s4.2)] rfl ?_
        exact hJ5
noncomputable def f_O_has (w : aw_W) (o : Option Nat) (p1 : Int32) : Option (Int32) :=
  (if p1 < 0 then
      some (0 : Int32)
    else
      (aw_gI w o 3 1).bind fun v1 =>
      if v1 ≤ p1 then
        some (0 : Int32)
      else
        some (1 : Int32) : Option (Int32)).bind fun j2 =>
  (aw_zz j2).bind fun v3 =>
  some j2
abbrev rm_O_has : Room := { frames := 0, cells := 0, slots := 0, locals := 0 }
set_option maxRecDepth 100000 in
set_option maxHeartbeats 4000000 in
theorem c_O_has (l : Launch) (hl : l.stackTraces = false) (D : va_G) (dA : Nat → ClassId) (base : Nat) (w : aw_W) (o : Option Nat) (p1 : Int32) (r : Int32) (hm : f_O_has w o p1 = some r) : aj_Ct l D dA base m_O_has rm_O_has [aRf o, aI p1] w (fun v w' => some (aI r) = v ∧ w = w') := by
  refine aj_enter hl (by decide) (Nat.le_of_ble_eq_true rfl) ?_
  intro Γ G E
  unfold f_O_has at hm
  refine j_iload_n G d_O_has_0 rfl ?_
  obtain ⟨j1, hj1, ho1⟩ := Option.bind_eq_some_iff.mp hm
  clear hm
  have hJ1 : aj_J Γ 2 (0, 0) 17 [] [aI j1] w := by
    clear hj1
    have hm := ho1
    clear ho1
    obtain ⟨v2, hv2, hm⟩ := Option.bind_eq_some_iff.mp hm
    obtain rfl := Option.some.inj hm
    exact j_zret G E d_O_has_17 ⟨by decide, by decide⟩ (aw_zz_some hv2) ⟨rfl, rfl⟩
  clear ho1
  have hm := hj1
  clear hj1
  refine j_if_lt (tgt := 16) G d_O_has_1 rfl (fun hc => ?_) (fun hc => ?_)
  · rw [if_pos hc] at hm
    refine j_iconst (v := 0) G d_O_has_16 (by decide) ?_
    obtain rfl := Option.some.inj hm
    refine j_lv [] rfl ?_
    exact hJ1
  · rw [if_neg hc] at hm
    refine j_iload_n G d_O_has_4 rfl ?_
    refine j_aload_n G d_O_has_5 rfl ?_
    obtain ⟨v3, hv3, hm⟩ := Option.bind_eq_some_iff.mp hm
    refine j_gI G d_O_has_6 fl_O_13 hv3 ?_
    refine j_icmp_ge (tgt := 16) G d_O_has_9 rfl (fun hc => ?_) (fun hc => ?_)
    · rw [if_pos hc] at hm
      refine j_iconst (v := 0) G d_O_has_16 (by decide) ?_
      obtain rfl := Option.some.inj hm
      refine j_lv [] rfl ?_
      exact hJ1
    · rw [if_neg hc] at hm
      refine j_iconst (v := 1) G d_O_has_12 (by decide) ?_
      refine j_goto (tgt := 17) G d_O_has_13 rfl ?_
      obtain rfl := Option.some.inj hm
      refine j_lv [] rfl ?_
      exact hJ1
noncomputable def f_O_set (w : aw_W) (o : Option Nat) (p1 : Int32) (p2 : Int32) : Option (aw_W) :=
  (aw_obj w o 3).bind fun v1 =>
  (f_O_has w o p1).bind fun v2 =>
  (if v2 = 0 then
      some w
    else
      (aw_gR w o 3 0).bind fun v3 =>
      (aw_sI w v3 0 p1 p2.toInt8.toInt32.toInt8.toInt32).bind fun v4 =>
      some v4 : Option (aw_W)).bind fun j5 =>
  some j5
abbrev rm_O_set : Room := { frames := 1, cells := 0, slots := 0, locals := 21 }
set_option maxRecDepth 100000 in
set_option maxHeartbeats 4000000 in
theorem c_O_set (l : Launch) (hl : l.stackTraces = false) (D : va_G) (dA : Nat → ClassId) (base : Nat) (w : aw_W) (o : Option Nat) (p1 : Int32) (p2 : Int32) (r : aw_W) (hm : f_O_set w o p1 p2 = some r) : aj_Ct l D dA base m_O_set rm_O_set [aRf o, aI p1, aI p2] w (fun v w' => none = v ∧ r = w') := by
  refine aj_enter hl (by decide) (Nat.le_of_ble_eq_true rfl) ?_
  intro Γ G E
  unfold f_O_set at hm
  refine j_aload_n G d_O_set_0 rfl ?_
  refine j_iload_n G d_O_set_1 rfl ?_
  obtain ⟨v1, hv1, hm⟩ := Option.bind_eq_some_iff.mp hm
  obtain ⟨v2, hv2, hm⟩ := Option.bind_eq_some_iff.mp hm
  refine j_callV (As := [aI p1]) G d_O_set_2 (c_O_has _ G.off _ _ _ _ _ _ _ hv2) mw_O_has mi_O_has lk_O_17 rfl hv1 rfl rfl (Nat.le_of_ble_eq_true rfl) ⟨by decide, by decide⟩ ⟨by decide, by decide⟩ (fun v9 w9 hp => ?_)
  obtain ⟨rfl, rfl⟩ := hp
  obtain ⟨j3, hj3, ho3⟩ := Option.bind_eq_some_iff.mp hm
  clear hm
  have hJ3 : aj_J Γ 3 (0, 0) 16 [] [] j3 := by
    clear hj3
    have hm := ho3
    clear ho3
    obtain rfl := Option.some.inj hm
    exact j_vret G E d_O_set_16 ⟨by decide, by decide⟩ ⟨rfl, rfl⟩
  clear ho3
  have hm := hj3
  clear hj3
  refine j_if_eq (tgt := 16) G d_O_set_5 rfl (fun hc => ?_) (fun hc => ?_)
  · rw [if_pos hc] at hm
    obtain rfl := Option.some.inj hm
    refine j_lv [] rfl ?_
    exact hJ3
  · rw [if_neg hc] at hm
    refine j_aload_n G d_O_set_8 rfl ?_
    obtain ⟨v4, hv4, hm⟩ := Option.bind_eq_some_iff.mp hm
    refine j_gR G d_O_set_9 fl_O_7 hv4 ?_
    refine j_iload_n G d_O_set_12 rfl ?_
    refine j_iload_n G d_O_set_13 rfl ?_
    refine j_i2b G d_O_set_14 ?_
    obtain ⟨v5, hv5, hm⟩ := Option.bind_eq_some_iff.mp hm
    refine j_bast G d_O_set_15 hv5 ?_
    obtain rfl := Option.some.inj hm
    refine j_lv [] rfl ?_
    exact hJ3
noncomputable def f_O_setSum (w : aw_W) (o : Option Nat) (p1 : Int32) (p2 : Int64) : Option (aw_W) :=
  (aw_wh (σ := Int32 × aw_W) (τ := Int32 × aw_W) (fun s1 =>
    if (4 : Int32) ≤ s1.1 then
      some (.inr (s1.1, s1.2))
    else
      (aw_obj s1.2 o 3).bind fun v2 =>
      (f_O_set s1.2 o (p1 + s1.1) ((aj_lushr p2 ((8 : Int32) * ((3 : Int32) - s1.1))).toInt32)).bind fun v3 =>
      some (.inl (s1.1 + 1, v3))) ((0 : Int32), w)).bind fun e4 =>
  some e4.2
abbrev rm_O_setSum : Room := { frames := 2, cells := 0, slots := 0, locals := 43 }
set_option maxRecDepth 100000 in
set_option maxHeartbeats 4000000 in
theorem c_O_setSum (l : Launch) (hl : l.stackTraces = false) (D : va_G) (dA : Nat → ClassId) (base : Nat) (w : aw_W) (o : Option Nat) (p1 : Int32) (p2 : Int64) (r : aw_W) (hm : f_O_setSum w o p1 p2 = some r) : aj_Ct l D dA base m_O_setSum rm_O_setSum [aRf o, aI p1, aL p2] w (fun v w' => none = v ∧ r = w') := by
  refine aj_enter hl (by decide) (Nat.le_of_ble_eq_true rfl) ?_
  intro Γ G E
  unfold f_O_setSum at hm
  refine j_iconst (v := 0) G d_O_setSum_0 (by decide) ?_
  refine j_istore G d_O_setSum_1 (by decide) ?_
  obtain ⟨e1, he1, ho1⟩ := Option.bind_eq_some_iff.mp hm
  clear hm
  refine j_lv [(0, aRf o), (1, aI p1), (2, aL p2), (4, aI (0 : Int32))] rfl ?_
  refine aw_wh_elim (fun (s : Int32 × aw_W) => aj_J Γ 5 (0, 0) 3 [(0, aRf o), (1, aI p1), (2, aL p2), (4, aI s.1)] [] s.2) ?_ he1
  intro s1 x1 hm hin1 hout1
  try dsimp only at hm ⊢
  refine j_iload G d_O_setSum_3 rfl ?_
  refine j_iconst (v := 4) G d_O_setSum_5 (by decide) ?_
  refine j_icmp_ge (tgt := 33) G d_O_setSum_6 rfl (fun hc => ?_) (fun hc => ?_)
  · rw [if_pos hc] at hm
    have q1 := hout1 _ (Option.some.inj hm).symm
    clear hin1 hout1
    subst q1
    clear hm
    have hm := ho1
    clear ho1
    try dsimp only at hm
    obtain rfl := Option.some.inj hm
    exact j_vret G E d_O_setSum_33 ⟨by decide, by decide⟩ ⟨rfl, rfl⟩
  · rw [if_neg hc] at hm
    refine j_aload_n G d_O_setSum_9 rfl ?_
    refine j_iload_n G d_O_setSum_10 rfl ?_
    refine j_iload G d_O_setSum_11 rfl ?_
    refine j_iadd G d_O_setSum_13 ?_
    refine j_lload_n G d_O_setSum_14 rfl ?_
    refine j_bipush (v := 8) G d_O_setSum_15 (by decide) ?_
    refine j_iconst (v := 3) G d_O_setSum_17 (by decide) ?_
    refine j_iload G d_O_setSum_18 rfl ?_
    refine j_isub G d_O_setSum_20 ?_
    refine j_imul G d_O_setSum_21 ?_
    refine j_lushr G d_O_setSum_22 ?_
    refine j_l2i G d_O_setSum_23 ?_
    obtain ⟨v2, hv2, hm⟩ := Option.bind_eq_some_iff.mp hm
    obtain ⟨v3, hv3, hm⟩ := Option.bind_eq_some_iff.mp hm
    refine j_callV (As := [aI (p1 + s1.1), aI ((aj_lushr p2 ((8 : Int32) * ((3 : Int32) - s1.1))).toInt32)]) G d_O_setSum_24 (c_O_set _ G.off _ _ _ _ _ _ _ _ hv3) mw_O_set mi_O_set lk_O_31 rfl hv2 rfl rfl (Nat.le_of_ble_eq_true rfl) ⟨by decide, by decide⟩ ⟨by decide, by decide⟩ (fun v9 w9 hp => ?_)
    obtain ⟨rfl, rfl⟩ := hp
    refine j_iinc (v := s1.1 + 1) G d_O_setSum_27 rfl (by first | rfl | decide) (by decide) ?_
    refine j_goto (tgt := 3) G d_O_setSum_30 rfl ?_
    refine j_lv [(0, aRf o), (1, aI p1), (2, aL p2), (4, aI (s1.1 + 1))] rfl ?_
    have z9 := hin1 _ (Option.some.inj hm).symm
    exact z9
noncomputable def f_O_number (w : aw_W) (o : Option Nat) (p1 : Int32) (p2 : Int32) : Option (Int64) :=
  (aw_wh (σ := Int64 × Int32) (τ := Int64 × Int32) (fun s1 =>
    if p2 ≤ s1.2 then
      some (.inr (s1.1, s1.2))
    else
      (aw_obj w o 3).bind fun v2 =>
      (f_O_at w o (p1 + s1.2)).bind fun v3 =>
      some (.inl ((aj_lshl s1.1 (8 : Int32)) ||| v3.toInt64, s1.2 + 1))) ((0 : Int64), (0 : Int32))).bind fun e4 =>
  some e4.1
abbrev rm_O_number : Room := { frames := 1, cells := 0, slots := 0, locals := 21 }
set_option maxRecDepth 100000 in
set_option maxHeartbeats 4000000 in
theorem c_O_number (l : Launch) (hl : l.stackTraces = false) (D : va_G) (dA : Nat → ClassId) (base : Nat) (w : aw_W) (o : Option Nat) (p1 : Int32) (p2 : Int32) (r : Int64) (hm : f_O_number w o p1 p2 = some r) : aj_Ct l D dA base m_O_number rm_O_number [aRf o, aI p1, aI p2] w (fun v w' => some (aL r) = v ∧ w = w') := by
  refine aj_enter hl (by decide) (Nat.le_of_ble_eq_true rfl) ?_
  intro Γ G E
  unfold f_O_number at hm
  refine j_lconst (v := 0) G d_O_number_0 (by decide) ?_
  refine j_lstore_n G d_O_number_1 (by decide) ?_
  refine j_iconst (v := 0) G d_O_number_2 (by decide) ?_
  refine j_istore G d_O_number_3 (by decide) ?_
  obtain ⟨e1, he1, ho1⟩ := Option.bind_eq_some_iff.mp hm
  clear hm
  refine j_lv [(0, aRf o), (1, aI p1), (2, aI p2), (3, aL (0 : Int64)), (5, aI (0 : Int32))] rfl ?_
  refine aw_wh_elim (fun (s : Int64 × Int32) => aj_J Γ 6 (0, 0) 5 [(0, aRf o), (1, aI p1), (2, aI p2), (3, aL s.1), (5, aI s.2)] [] w) ?_ he1
  intro s1 x1 hm hin1 hout1
  try dsimp only at hm ⊢
  refine j_iload G d_O_number_5 rfl ?_
  refine j_iload_n G d_O_number_7 rfl ?_
  refine j_icmp_ge (tgt := 32) G d_O_number_8 rfl (fun hc => ?_) (fun hc => ?_)
  · rw [if_pos hc] at hm
    have q1 := hout1 _ (Option.some.inj hm).symm
    clear hin1 hout1
    subst q1
    clear hm
    have hm := ho1
    clear ho1
    try dsimp only at hm
    refine j_lload_n G d_O_number_32 rfl ?_
    obtain rfl := Option.some.inj hm
    exact j_lret G E d_O_number_33 ⟨by decide, by decide⟩ ⟨rfl, rfl⟩
  · rw [if_neg hc] at hm
    refine j_lload_n G d_O_number_11 rfl ?_
    refine j_bipush (v := 8) G d_O_number_12 (by decide) ?_
    refine j_lshl G d_O_number_14 ?_
    refine j_aload_n G d_O_number_15 rfl ?_
    refine j_iload_n G d_O_number_16 rfl ?_
    refine j_iload G d_O_number_17 rfl ?_
    refine j_iadd G d_O_number_19 ?_
    obtain ⟨v2, hv2, hm⟩ := Option.bind_eq_some_iff.mp hm
    obtain ⟨v3, hv3, hm⟩ := Option.bind_eq_some_iff.mp hm
    refine j_callV (As := [aI (p1 + s1.2)]) G d_O_number_20 (c_O_at _ G.off _ _ _ _ _ _ _ hv3) mw_O_at mi_O_at lk_O_25 rfl hv2 rfl rfl (Nat.le_of_ble_eq_true rfl) ⟨by decide, by decide⟩ ⟨by decide, by decide⟩ (fun v9 w9 hp => ?_)
    obtain ⟨rfl, rfl⟩ := hp
    refine j_i2l G d_O_number_23 ?_
    refine j_lor G d_O_number_24 ?_
    refine j_lstore_n G d_O_number_25 (by decide) ?_
    refine j_iinc (v := s1.2 + 1) G d_O_number_26 rfl (by first | rfl | decide) (by decide) ?_
    refine j_goto (tgt := 5) G d_O_number_29 rfl ?_
    refine j_lv [(0, aRf o), (1, aI p1), (2, aI p2), (3, aL ((aj_lshl s1.1 (8 : Int32)) ||| v3.toInt64)), (5, aI (s1.2 + 1))] rfl ?_
    have z9 := hin1 _ (Option.some.inj hm).symm
    exact z9
noncomputable def f_Y_isKeySize (w : aw_W) (p1 : Int32) : Option (Int32) :=
  (if p1 < (1 : Int32) then
      some (0 : Int32)
    else
      if (4 : Int32) < p1 then
        some (0 : Int32)
      else
        some (1 : Int32) : Option (Int32)).bind fun j1 =>
  (aw_zz j1).bind fun v2 =>
  some j1
abbrev rm_Y_isKeySize : Room := { frames := 0, cells := 0, slots := 0, locals := 0 }
set_option maxRecDepth 100000 in
set_option maxHeartbeats 4000000 in
theorem c_Y_isKeySize (l : Launch) (hl : l.stackTraces = false) (D : va_G) (dA : Nat → ClassId) (base : Nat) (w : aw_W) (p1 : Int32) (r : Int32) (hm : f_Y_isKeySize w p1 = some r) : aj_Ct l D dA base m_Y_isKeySize rm_Y_isKeySize [aI p1] w (fun v w' => some (aI r) = v ∧ w = w') := by
  refine aj_enter hl (by decide) (Nat.le_of_ble_eq_true rfl) ?_
  intro Γ G E
  unfold f_Y_isKeySize at hm
  refine j_iload_n G d_Y_isKeySize_0 rfl ?_
  refine j_iconst (v := 1) G d_Y_isKeySize_1 (by decide) ?_
  obtain ⟨j1, hj1, ho1⟩ := Option.bind_eq_some_iff.mp hm
  clear hm
  have hJ1 : aj_J Γ 1 (0, 0) 15 [] [aI j1] w := by
    clear hj1
    have hm := ho1
    clear ho1
    obtain ⟨v2, hv2, hm⟩ := Option.bind_eq_some_iff.mp hm
    obtain rfl := Option.some.inj hm
    exact j_zret G E d_Y_isKeySize_15 ⟨by decide, by decide⟩ (aw_zz_some hv2) ⟨rfl, rfl⟩
  clear ho1
  have hm := hj1
  clear hj1
  refine j_icmp_lt (tgt := 14) G d_Y_isKeySize_2 rfl (fun hc => ?_) (fun hc => ?_)
  · rw [if_pos hc] at hm
    refine j_iconst (v := 0) G d_Y_isKeySize_14 (by decide) ?_
    obtain rfl := Option.some.inj hm
    refine j_lv [] rfl ?_
    exact hJ1
  · rw [if_neg hc] at hm
    refine j_iload_n G d_Y_isKeySize_5 rfl ?_
    refine j_iconst (v := 4) G d_Y_isKeySize_6 (by decide) ?_
    refine j_icmp_gt (tgt := 14) G d_Y_isKeySize_7 rfl (fun hc => ?_) (fun hc => ?_)
    · rw [if_pos hc] at hm
      refine j_iconst (v := 0) G d_Y_isKeySize_14 (by decide) ?_
      obtain rfl := Option.some.inj hm
      refine j_lv [] rfl ?_
      exact hJ1
    · rw [if_neg hc] at hm
      refine j_iconst (v := 1) G d_Y_isKeySize_10 (by decide) ?_
      refine j_goto (tgt := 15) G d_Y_isKeySize_11 rfl ?_
      obtain rfl := Option.some.inj hm
      refine j_lv [] rfl ?_
      exact hJ1
noncomputable def f_Y_isValueSize (w : aw_W) (p1 : Int32) : Option (Int32) :=
  (if p1 < 0 then
      some (0 : Int32)
    else
      if (8 : Int32) < p1 then
        some (0 : Int32)
      else
        some (1 : Int32) : Option (Int32)).bind fun j1 =>
  (aw_zz j1).bind fun v2 =>
  some j1
abbrev rm_Y_isValueSize : Room := { frames := 0, cells := 0, slots := 0, locals := 0 }
set_option maxRecDepth 100000 in
set_option maxHeartbeats 4000000 in
theorem c_Y_isValueSize (l : Launch) (hl : l.stackTraces = false) (D : va_G) (dA : Nat → ClassId) (base : Nat) (w : aw_W) (p1 : Int32) (r : Int32) (hm : f_Y_isValueSize w p1 = some r) : aj_Ct l D dA base m_Y_isValueSize rm_Y_isValueSize [aI p1] w (fun v w' => some (aI r) = v ∧ w = w') := by
  refine aj_enter hl (by decide) (Nat.le_of_ble_eq_true rfl) ?_
  intro Γ G E
  unfold f_Y_isValueSize at hm
  refine j_iload_n G d_Y_isValueSize_0 rfl ?_
  obtain ⟨j1, hj1, ho1⟩ := Option.bind_eq_some_iff.mp hm
  clear hm
  have hJ1 : aj_J Γ 1 (0, 0) 15 [] [aI j1] w := by
    clear hj1
    have hm := ho1
    clear ho1
    obtain ⟨v2, hv2, hm⟩ := Option.bind_eq_some_iff.mp hm
    obtain rfl := Option.some.inj hm
    exact j_zret G E d_Y_isValueSize_15 ⟨by decide, by decide⟩ (aw_zz_some hv2) ⟨rfl, rfl⟩
  clear ho1
  have hm := hj1
  clear hj1
  refine j_if_lt (tgt := 14) G d_Y_isValueSize_1 rfl (fun hc => ?_) (fun hc => ?_)
  · rw [if_pos hc] at hm
    refine j_iconst (v := 0) G d_Y_isValueSize_14 (by decide) ?_
    obtain rfl := Option.some.inj hm
    refine j_lv [] rfl ?_
    exact hJ1
  · rw [if_neg hc] at hm
    refine j_iload_n G d_Y_isValueSize_4 rfl ?_
    refine j_bipush (v := 8) G d_Y_isValueSize_5 (by decide) ?_
    refine j_icmp_gt (tgt := 14) G d_Y_isValueSize_7 rfl (fun hc => ?_) (fun hc => ?_)
    · rw [if_pos hc] at hm
      refine j_iconst (v := 0) G d_Y_isValueSize_14 (by decide) ?_
      obtain rfl := Option.some.inj hm
      refine j_lv [] rfl ?_
      exact hJ1
    · rw [if_neg hc] at hm
      refine j_iconst (v := 1) G d_Y_isValueSize_10 (by decide) ?_
      refine j_goto (tgt := 15) G d_Y_isValueSize_11 rfl ?_
      obtain rfl := Option.some.inj hm
      refine j_lv [] rfl ?_
      exact hJ1
noncomputable def f_O_addFrom (w : aw_W) (o : Option Nat) (p1 : Option Nat) (p2 : Int32) (p3 : Int32) : Option (aw_W) :=
  (aw_wh (σ := Int32 × aw_W) (τ := Int32 × aw_W) (fun s1 =>
    if p3 ≤ s1.1 then
      some (.inr (s1.1, s1.2))
    else
      (aw_obj s1.2 p1 3).bind fun v2 =>
      (f_O_at s1.2 p1 (p2 + s1.1)).bind fun v3 =>
      (aw_obj s1.2 o 3).bind fun v4 =>
      (f_O_addByte s1.2 o v3).bind fun v5 =>
      some (.inl (s1.1 + 1, v5))) ((0 : Int32), w)).bind fun e6 =>
  some e6.2
abbrev rm_O_addFrom : Room := { frames := 1, cells := 0, slots := 0, locals := 21 }
set_option maxRecDepth 100000 in
set_option maxHeartbeats 4000000 in
theorem c_O_addFrom (l : Launch) (hl : l.stackTraces = false) (D : va_G) (dA : Nat → ClassId) (base : Nat) (w : aw_W) (o : Option Nat) (p1 : Option Nat) (p2 : Int32) (p3 : Int32) (r : aw_W) (hm : f_O_addFrom w o p1 p2 p3 = some r) : aj_Ct l D dA base m_O_addFrom rm_O_addFrom [aRf o, aRf p1, aI p2, aI p3] w (fun v w' => none = v ∧ r = w') := by
  refine aj_enter hl (by decide) (Nat.le_of_ble_eq_true rfl) ?_
  intro Γ G E
  unfold f_O_addFrom at hm
  refine j_iconst (v := 0) G d_O_addFrom_0 (by decide) ?_
  refine j_istore G d_O_addFrom_1 (by decide) ?_
  obtain ⟨e1, he1, ho1⟩ := Option.bind_eq_some_iff.mp hm
  clear hm
  refine j_lv [(0, aRf o), (1, aRf p1), (2, aI p2), (3, aI p3), (4, aI (0 : Int32))] rfl ?_
  refine aw_wh_elim (fun (s : Int32 × aw_W) => aj_J Γ 5 (0, 0) 3 [(0, aRf o), (1, aRf p1), (2, aI p2), (3, aI p3), (4, aI s.1)] [] s.2) ?_ he1
  intro s1 x1 hm hin1 hout1
  try dsimp only at hm ⊢
  refine j_iload G d_O_addFrom_3 rfl ?_
  refine j_iload_n G d_O_addFrom_5 rfl ?_
  refine j_icmp_ge (tgt := 27) G d_O_addFrom_6 rfl (fun hc => ?_) (fun hc => ?_)
  · rw [if_pos hc] at hm
    have q1 := hout1 _ (Option.some.inj hm).symm
    clear hin1 hout1
    subst q1
    clear hm
    have hm := ho1
    clear ho1
    try dsimp only at hm
    obtain rfl := Option.some.inj hm
    exact j_vret G E d_O_addFrom_27 ⟨by decide, by decide⟩ ⟨rfl, rfl⟩
  · rw [if_neg hc] at hm
    refine j_aload_n G d_O_addFrom_9 rfl ?_
    refine j_aload_n G d_O_addFrom_10 rfl ?_
    refine j_iload_n G d_O_addFrom_11 rfl ?_
    refine j_iload G d_O_addFrom_12 rfl ?_
    refine j_iadd G d_O_addFrom_14 ?_
    obtain ⟨v2, hv2, hm⟩ := Option.bind_eq_some_iff.mp hm
    obtain ⟨v3, hv3, hm⟩ := Option.bind_eq_some_iff.mp hm
    refine j_callV (As := [aI (p2 + s1.1)]) G d_O_addFrom_15 (c_O_at _ G.off _ _ _ _ _ _ _ hv3) mw_O_at mi_O_at lk_O_25 rfl hv2 rfl rfl (Nat.le_of_ble_eq_true rfl) ⟨by decide, by decide⟩ ⟨by decide, by decide⟩ (fun v9 w9 hp => ?_)
    obtain ⟨rfl, rfl⟩ := hp
    obtain ⟨v4, hv4, hm⟩ := Option.bind_eq_some_iff.mp hm
    obtain ⟨v5, hv5, hm⟩ := Option.bind_eq_some_iff.mp hm
    refine j_callV (As := [aI v3]) G d_O_addFrom_18 (c_O_addByte _ G.off _ _ _ _ _ _ _ hv5) mw_O_addByte mi_O_addByte lk_O_21 rfl hv4 rfl rfl (Nat.le_of_ble_eq_true rfl) ⟨by decide, by decide⟩ ⟨by decide, by decide⟩ (fun v9 w9 hp => ?_)
    obtain ⟨rfl, rfl⟩ := hp
    refine j_iinc (v := s1.1 + 1) G d_O_addFrom_21 rfl (by first | rfl | decide) (by decide) ?_
    refine j_goto (tgt := 3) G d_O_addFrom_24 rfl ?_
    refine j_lv [(0, aRf o), (1, aRf p1), (2, aI p2), (3, aI p3), (4, aI (s1.1 + 1))] rfl ?_
    have z9 := hin1 _ (Option.some.inj hm).symm
    exact z9
