noncomputable def f_L_turn (w : aw_W) (o m a : Option Nat) (n : Nat) (sc : Nat → Int32) (i : Int32) : Option aw_W :=
  (aw_scr n sc i).bind fun v =>
  if v &&& 15 = (0 : Int32) then f_L_case0 w o m a n sc i else
  if v &&& 15 = (1 : Int32) then f_L_case1 w o m a n sc i else
  if v &&& 15 = (2 : Int32) then f_L_case2 w o m a n sc i else
  if v &&& 15 = (3 : Int32) then f_L_case3 w o m a n sc i else
  if v &&& 15 = (4 : Int32) then f_L_case4 w o m a n sc i else
  if v &&& 15 = (5 : Int32) then f_L_case5 w o m a n sc i else
  if v &&& 15 = (6 : Int32) then f_L_case6 w o m a n sc i else
  if v &&& 15 = (7 : Int32) then f_L_case7 w o m a n sc i else
  if v &&& 15 = (8 : Int32) then f_L_case8 w o m a n sc i else
  if v &&& 15 = (9 : Int32) then f_L_case9 w o m a n sc i else
  if v &&& 15 = (10 : Int32) then f_L_case10 w o m a n sc i else
  if v &&& 15 = (11 : Int32) then f_L_case11 w o m a n sc i else
  if v &&& 15 = (12 : Int32) then f_L_case12 w o m a n sc i else
  some w
set_option maxRecDepth 100000 in
set_option maxHeartbeats 4000000 in
theorem jt_turn {Γ : aj_G} {k1 k2 z n : Nat} {o m a : Option Nat} {sc : Nat → Int32} {i : Int32} {w w' : aw_W} (G : aj_ok Γ y_L_law b_L_law 8 (some .boolean) rm_L_law) (S : aj_sc Γ z n sc) (hk1 : k1 + 4 ≤ 601024) (hk2 : k2 + 24 ≤ 7293034) (hm : f_L_turn w o m a n sc i = some w') (hK : aj_J Γ 8 (k1 + 4, k2 + 24) 992 (aj_llv z o m a i) [] w') : aj_J Γ 8 (k1, k2) 33 (aj_llv z o m a i) [] w := by
  unfold f_L_turn at hm
  obtain ⟨v, hv, hm⟩ := Option.bind_eq_some_iff.mp hm
  refine j_aload_n G d_L_law_33 rfl ?_
  refine j_iload G d_L_law_34 rfl ?_
  refine j_scld G S d_L_law_36 hv ?_
  refine j_bipush (v := 15) G d_L_law_37 (by decide) ?_
  refine j_iand G d_L_law_39 ?_
  generalize v &&& 15 = y at hm ⊢
  by_cases hs0 : y = (0 : Int32)
  · rw [if_pos hs0] at hm
    refine j_tableIn (tgt := 108) (off := 68) G d_L_law_40 (by rw [hs0]; decide) (by rw [hs0]; decide) (by rw [hs0]; rfl) rfl ?_
    exact jc_0 G S hk1 hk2 hm hK
  rw [if_neg hs0] at hm
  by_cases hs1 : y = (1 : Int32)
  · rw [if_pos hs1] at hm
    refine j_tableIn (tgt := 246) (off := 206) G d_L_law_40 (by rw [hs1]; decide) (by rw [hs1]; decide) (by rw [hs1]; rfl) rfl ?_
    exact jc_1 G S hk1 hk2 hm hK
  rw [if_neg hs1] at hm
  by_cases hs2 : y = (2 : Int32)
  · rw [if_pos hs2] at hm
    refine j_tableIn (tgt := 353) (off := 313) G d_L_law_40 (by rw [hs2]; decide) (by rw [hs2]; decide) (by rw [hs2]; rfl) rfl ?_
    exact jc_2 G S hk1 hk2 hm hK
  rw [if_neg hs2] at hm
  by_cases hs3 : y = (3 : Int32)
  · rw [if_pos hs3] at hm
    refine j_tableIn (tgt := 452) (off := 412) G d_L_law_40 (by rw [hs3]; decide) (by rw [hs3]; decide) (by rw [hs3]; rfl) rfl ?_
    exact jc_3 G S hk1 hk2 hm hK
  rw [if_neg hs3] at hm
  by_cases hs4 : y = (4 : Int32)
  · rw [if_pos hs4] at hm
    refine j_tableIn (tgt := 496) (off := 456) G d_L_law_40 (by rw [hs4]; decide) (by rw [hs4]; decide) (by rw [hs4]; rfl) rfl ?_
    exact jc_4 G S hk1 hk2 hm hK
  rw [if_neg hs4] at hm
  by_cases hs5 : y = (5 : Int32)
  · rw [if_pos hs5] at hm
    refine j_tableIn (tgt := 563) (off := 523) G d_L_law_40 (by rw [hs5]; decide) (by rw [hs5]; decide) (by rw [hs5]; rfl) rfl ?_
    exact jc_5 G S hk1 hk2 hm hK
  rw [if_neg hs5] at hm
  by_cases hs6 : y = (6 : Int32)
  · rw [if_pos hs6] at hm
    refine j_tableIn (tgt := 587) (off := 547) G d_L_law_40 (by rw [hs6]; decide) (by rw [hs6]; decide) (by rw [hs6]; rfl) rfl ?_
    exact jc_6 G S hk1 hk2 hm hK
  rw [if_neg hs6] at hm
  by_cases hs7 : y = (7 : Int32)
  · rw [if_pos hs7] at hm
    refine j_tableIn (tgt := 623) (off := 583) G d_L_law_40 (by rw [hs7]; decide) (by rw [hs7]; decide) (by rw [hs7]; rfl) rfl ?_
    exact jc_7 G S hk1 hk2 hm hK
  rw [if_neg hs7] at hm
  by_cases hs8 : y = (8 : Int32)
  · rw [if_pos hs8] at hm
    refine j_tableIn (tgt := 664) (off := 624) G d_L_law_40 (by rw [hs8]; decide) (by rw [hs8]; decide) (by rw [hs8]; rfl) rfl ?_
    exact jc_8 G S hk1 hk2 hm hK
  rw [if_neg hs8] at hm
  by_cases hs9 : y = (9 : Int32)
  · rw [if_pos hs9] at hm
    refine j_tableIn (tgt := 727) (off := 687) G d_L_law_40 (by rw [hs9]; decide) (by rw [hs9]; decide) (by rw [hs9]; rfl) rfl ?_
    exact jc_9 G S hk1 hk2 hm hK
  rw [if_neg hs9] at hm
  by_cases hs10 : y = (10 : Int32)
  · rw [if_pos hs10] at hm
    refine j_tableIn (tgt := 740) (off := 700) G d_L_law_40 (by rw [hs10]; decide) (by rw [hs10]; decide) (by rw [hs10]; rfl) rfl ?_
    exact jc_10 G S hk1 hk2 hm hK
  rw [if_neg hs10] at hm
  by_cases hs11 : y = (11 : Int32)
  · rw [if_pos hs11] at hm
    refine j_tableIn (tgt := 808) (off := 768) G d_L_law_40 (by rw [hs11]; decide) (by rw [hs11]; decide) (by rw [hs11]; rfl) rfl ?_
    exact jc_11 G S hk1 hk2 hm hK
  rw [if_neg hs11] at hm
  by_cases hs12 : y = (12 : Int32)
  · rw [if_pos hs12] at hm
    refine j_tableIn (tgt := 904) (off := 864) G d_L_law_40 (by rw [hs12]; decide) (by rw [hs12]; decide) (by rw [hs12]; rfl) rfl ?_
    exact jc_12 G S hk1 hk2 hm hK
  rw [if_neg hs12] at hm
  refine j_tableOut (tgt := 992) G d_L_law_40 (by have t0 : y.toInt ≠ 0 := fun h => hs0 (Int32.toInt_inj.mp (h.trans (by decide))); have t1 : y.toInt ≠ 1 := fun h => hs1 (Int32.toInt_inj.mp (h.trans (by decide))); have t2 : y.toInt ≠ 2 := fun h => hs2 (Int32.toInt_inj.mp (h.trans (by decide))); have t3 : y.toInt ≠ 3 := fun h => hs3 (Int32.toInt_inj.mp (h.trans (by decide))); have t4 : y.toInt ≠ 4 := fun h => hs4 (Int32.toInt_inj.mp (h.trans (by decide))); have t5 : y.toInt ≠ 5 := fun h => hs5 (Int32.toInt_inj.mp (h.trans (by decide))); have t6 : y.toInt ≠ 6 := fun h => hs6 (Int32.toInt_inj.mp (h.trans (by decide))); have t7 : y.toInt ≠ 7 := fun h => hs7 (Int32.toInt_inj.mp (h.trans (by decide))); have t8 : y.toInt ≠ 8 := fun h => hs8 (Int32.toInt_inj.mp (h.trans (by decide))); have t9 : y.toInt ≠ 9 := fun h => hs9 (Int32.toInt_inj.mp (h.trans (by decide))); have t10 : y.toInt ≠ 10 := fun h => hs10 (Int32.toInt_inj.mp (h.trans (by decide))); have t11 : y.toInt ≠ 11 := fun h => hs11 (Int32.toInt_inj.mp (h.trans (by decide))); have t12 : y.toInt ≠ 12 := fun h => hs12 (Int32.toInt_inj.mp (h.trans (by decide))); omega) rfl ?_
  obtain rfl := Option.some.inj hm
  exact j_wide (k1 + 4, k2 + 24) (Nat.le_add_right _ _) (Nat.le_add_right _ _) hK
noncomputable def f_L_start (w : aw_W) (z : Nat) : Option (Option Nat × Option Nat × Option Nat × aw_W) :=
  (w.1).bind fun v1 =>
  (f_A_init (aw_add w v1 (.inr (0, [.null, .null, .null, .int 0, .int 0]))) (some v1)).bind fun v2 =>
  (v2.1).bind fun v3 =>
  (f_M_init (aw_add v2 v3 (.inr (7, [.int 0, .int 0, .null, .null, .null, .null, .null, .null, .null, .null, .null, .null, .null, .null, .null, .int 0, .null, .null, .null, .null, .int 0, .int 0, .int 0, .int 0, .int 0, .int 0, .int 0, .int 0, .int 0]))) (some v3)).bind fun v4 =>
  (v4.1).bind fun v5 =>
  some ((some v1), (some v3), (some v5), aw_add v4 v5 (.inl (2, (1, .inr (.inl (fun _ => 0))))))
set_option maxRecDepth 100000 in
set_option maxHeartbeats 4000000 in
theorem jt_start {Γ : aj_G} {z : Nat} {w : aw_W} {q : Option Nat × Option Nat × Option Nat × aw_W} (G : aj_ok Γ y_L_law b_L_law 8 (some .boolean) rm_L_law) (hm : f_L_start w z = some q) (hK : aj_J Γ 8 (278, 7922) 23 (aj_llv z q.1 q.2.1 q.2.2.1 0) [] q.2.2.2) : aj_J Γ 8 (0, 0) 0 [(0, aRf (some z))] [] w := by
  unfold f_L_start at hm
  obtain ⟨v1, hv1, hm⟩ := Option.bind_eq_some_iff.mp hm
  refine j_new (ci := 0) (fs := [.null, .null, .null, .int 0, .int 0]) aY_A G d_L_law_0 rfl aY_A_ok au_A wd_1_18 wd_1_19 wd_1_1 hv1 (by decide) ⟨by dsimp only [rm_L_law]; omega, by dsimp only [rm_L_law]; omega⟩ ?_
  refine j_dup G d_L_law_3 rfl ?_
  obtain ⟨v2, hv2, hm⟩ := Option.bind_eq_some_iff.mp hm
  refine j_callI (As := []) G d_L_law_4 (c_A_init _ G.off _ _ _ _ _ _ hv2) rfl rfl mw_A_init mn_A_init lk_L_60 rfl rfl (Nat.le_of_ble_eq_true rfl) ⟨by decide, by decide⟩ ⟨by dsimp only [rm_A_init, rm_L_law]; omega, by dsimp only [rm_A_init, rm_L_law]; omega⟩ (fun v9 w9 hp => ?_)
  obtain ⟨rfl, rfl⟩ := hp
  refine j_astore_n G d_L_law_7 (by decide) ?_
  obtain ⟨v3, hv3, hm⟩ := Option.bind_eq_some_iff.mp hm
  refine j_new (ci := 7) (fs := [.int 0, .int 0, .null, .null, .null, .null, .null, .null, .null, .null, .null, .null, .null, .null, .null, .int 0, .null, .null, .null, .null, .int 0, .int 0, .int 0, .int 0, .int 0, .int 0, .int 0, .int 0, .int 0]) aY_M G d_L_law_8 rfl aY_M_ok au_M wd_4_7 wd_4_8 wd_1_8 hv3 (by decide) ⟨by dsimp only [rm_A_init, rm_L_law]; omega, by dsimp only [rm_A_init, rm_L_law]; omega⟩ ?_
  refine j_dup G d_L_law_11 rfl ?_
  obtain ⟨v4, hv4, hm⟩ := Option.bind_eq_some_iff.mp hm
  refine j_callI (As := []) G d_L_law_12 (c_M_init _ G.off _ _ _ _ _ _ hv4) rfl rfl mw_M_init mn_M_init lk_L_63 rfl rfl (Nat.le_of_ble_eq_true rfl) ⟨by decide, by decide⟩ ⟨by dsimp only [rm_A_init, rm_L_law, rm_M_init]; omega, by dsimp only [rm_A_init, rm_L_law, rm_M_init]; omega⟩ (fun v9 w9 hp => ?_)
  obtain ⟨rfl, rfl⟩ := hp
  refine j_astore_n G d_L_law_15 (by decide) ?_
  refine j_iconst (v := 1) G d_L_law_16 (by decide) ?_
  obtain ⟨v5, hv5, hm⟩ := Option.bind_eq_some_iff.mp hm
  refine j_newa (t := 2) (N := 1) (ty := .long) (a0 := (1, .inr (.inl (fun _ => 0)))) G d_L_law_17 wd_4_103 rfl ((G.K.1.2 2 _ rfl).2) (fun cA => by rw [vp_cell_l]; rfl) (by decide) (by decide) (by decide) hv5 ⟨by dsimp only [rm_A_init, rm_L_law, rm_M_init]; omega, by dsimp only [rm_A_init, rm_L_law, rm_M_init]; omega⟩ ?_
  refine j_astore_n G d_L_law_19 (by decide) ?_
  refine j_iconst (v := 0) G d_L_law_20 (by decide) ?_
  refine j_istore G d_L_law_21 (by decide) ?_
  obtain rfl := Option.some.inj hm
  refine j_lv (aj_llv z (some v1) (some v3) (some v5) 0) rfl ?_
  refine j_wide (278, 7922) (by dsimp only [rm_A_init, rm_M_init]; omega) (by dsimp only [rm_A_init, rm_M_init]; omega) ?_
  exact hK
