theorem mh_L_delete : aw_Mh m_L_delete hh_L_delete 4 := ⟨wd_3_10, wd_1_0, ⟨by decide, by decide⟩, by decide +kernel⟩
theorem mhs_L_delete : Cond.static y_L_delete ∈ aw_ws := wd_3_9
theorem mh_L_file : aw_Mh m_L_file hh_L_file 4 := ⟨wd_3_202, wd_1_0, ⟨by decide, by decide⟩, by decide +kernel⟩
theorem mhs_L_file : Cond.static y_L_file ∈ aw_ws := wd_3_201
theorem mh_L_get : aw_Mh m_L_get hh_L_get 4 := ⟨wd_3_21, wd_1_0, ⟨by decide, by decide⟩, by decide +kernel⟩
theorem mhs_L_get : Cond.static y_L_get ∈ aw_ws := wd_3_20
theorem mh_L_key : aw_Mh m_L_key hh_L_key 4 := ⟨wd_3_75, wd_1_0, ⟨by decide, by decide⟩, by decide +kernel⟩
theorem mhs_L_key : Cond.static y_L_key ∈ aw_ws := wd_3_74
theorem mh_L_keys : aw_Mh m_L_keys hh_L_keys 2 := ⟨wd_3_68, wd_1_0, ⟨by decide, by decide⟩, by decide +kernel⟩
theorem mhs_L_keys : Cond.static y_L_keys ∈ aw_ws := wd_3_67
theorem mh_L_lose : aw_Mh m_L_lose hh_L_lose 2 := ⟨wd_3_101, wd_1_0, ⟨by decide, by decide⟩, by decide +kernel⟩
theorem mhs_L_lose : Cond.static y_L_lose ∈ aw_ws := wd_3_100
theorem mh_L_merge : aw_Mh m_L_merge hh_L_merge 3 := ⟨wd_3_116, wd_1_0, ⟨by decide, by decide⟩, by decide +kernel⟩
theorem mhs_L_merge : Cond.static y_L_merge ∈ aw_ws := wd_3_115
theorem mh_L_octet : aw_Mh m_L_octet hh_L_octet 5 := ⟨wd_3_227, wd_1_0, ⟨by decide, by decide⟩, by decide +kernel⟩
theorem mhs_L_octet : Cond.static y_L_octet ∈ aw_ws := wd_3_226
theorem mh_L_put : aw_Mh m_L_put hh_L_put 5 := ⟨wd_2_74, wd_1_0, ⟨by decide, by decide⟩, by decide +kernel⟩
theorem mhs_L_put : Cond.static y_L_put ∈ aw_ws := wd_2_73
theorem mh_L_spoil : aw_Mh m_L_spoil hh_L_spoil 5 := ⟨wd_4_1, wd_1_0, ⟨by decide, by decide⟩, by decide +kernel⟩
theorem mhs_L_spoil : Cond.static y_L_spoil ∈ aw_ws := wd_4_0
theorem mh_L_sync : aw_Mh m_L_sync hh_L_sync 1 := ⟨wd_3_93, wd_1_0, ⟨by decide, by decide⟩, by decide +kernel⟩
theorem mhs_L_sync : Cond.static y_L_sync ∈ aw_ws := wd_3_92
abbrev rm_L_law : Room := { frames := 11, cells := 601024, slots := 7293034, locals := 412 }
def aj_llv (z : Nat) (o m a : Option Nat) (i : Int32) : List (Nat × aV) := [(0, aRf (some z)), (1, aRf o), (2, aRf m), (3, aRf a), (4, aI i)]
noncomputable def f_L_case0 (w : aw_W) (o m a : Option Nat) (n : Nat) (sc : Nat → Int32) (i : Int32) : Option aw_W :=
  (aw_scr n sc (i + (1 : Int32))).bind fun v1 =>
  (aw_scr n sc (i + (2 : Int32))).bind fun v2 =>
  (aw_scr n sc (i + (3 : Int32))).bind fun v3 =>
  (aw_scr n sc (i + (4 : Int32))).bind fun v4 =>
  (aw_scr n sc (i + (5 : Int32))).bind fun v5 =>
  (aw_scr n sc (i + (6 : Int32))).bind fun v6 =>
  (f_L_put w o ((aj_lshl v1.toInt64 (32 : Int32)) ||| (v2.toInt64 &&& (4294967295 : Int64))) v3 ((aj_lshl v4.toInt64 (32 : Int32)) ||| (v5.toInt64 &&& (4294967295 : Int64))) v6).bind fun v7 =>
  (aw_scr n sc (i + (1 : Int32))).bind fun v8 =>
  (aw_scr n sc (i + (2 : Int32))).bind fun v9 =>
  (aw_scr n sc (i + (3 : Int32))).bind fun v10 =>
  (aw_scr n sc (i + (4 : Int32))).bind fun v11 =>
  (aw_scr n sc (i + (5 : Int32))).bind fun v12 =>
  (aw_scr n sc (i + (6 : Int32))).bind fun v13 =>
  (aw_obj v7.2 m 7).bind fun v14 =>
  (f_M_put v7.2 m ((aj_lshl v8.toInt64 (32 : Int32)) ||| (v9.toInt64 &&& (4294967295 : Int64))) v10 ((aj_lshl v11.toInt64 (32 : Int32)) ||| (v12.toInt64 &&& (4294967295 : Int64))) v13).bind fun v15 =>
  (aw_obj v15 m 7).bind fun v16 =>
  (f_M_thrown v15 m).bind fun v17 =>
  if v17 = v7.1 then
    some v15
  else
    none
set_option maxRecDepth 100000 in
set_option maxHeartbeats 4000000 in
theorem jc_0 {Γ : aj_G} {k1 k2 z n : Nat} {o m a : Option Nat} {sc : Nat → Int32} {i : Int32} {w w' : aw_W} (G : aj_ok Γ y_L_law b_L_law 8 (some .boolean) rm_L_law) (S : aj_sc Γ z n sc) (hk1 : k1 + 4 ≤ 601024) (hk2 : k2 + 24 ≤ 7293034) (hm : f_L_case0 w o m a n sc i = some w') (hK : aj_J Γ 8 (k1 + 4, k2 + 24) 992 (aj_llv z o m a i) [] w') : aj_J Γ 8 (k1, k2) 108 (aj_llv z o m a i) [] w := by
  unfold f_L_case0 at hm
  refine j_wide (k1 + 0, k2 + 0) (Nat.le_refl _) (Nat.le_refl _) ?_
  refine j_aload_n G d_L_law_108 rfl ?_
  refine j_aload_n G d_L_law_109 rfl ?_
  refine j_iload G d_L_law_110 rfl ?_
  refine j_iconst (v := 1) G d_L_law_112 (by decide) ?_
  refine j_iadd G d_L_law_113 ?_
  obtain ⟨v1, hv1, hm⟩ := Option.bind_eq_some_iff.mp hm
  refine j_scld G S d_L_law_114 hv1 ?_
  refine j_i2l G d_L_law_115 ?_
  refine j_bipush (v := 32) G d_L_law_116 (by decide) ?_
  refine j_lshl G d_L_law_118 ?_
  refine j_aload_n G d_L_law_119 rfl ?_
  refine j_iload G d_L_law_120 rfl ?_
  refine j_iconst (v := 2) G d_L_law_122 (by decide) ?_
  refine j_iadd G d_L_law_123 ?_
  obtain ⟨v2, hv2, hm⟩ := Option.bind_eq_some_iff.mp hm
  refine j_scld G S d_L_law_124 hv2 ?_
  refine j_i2l G d_L_law_125 ?_
  refine j_ldc2 G d_L_law_126 wd_5_53 ?_
  refine j_land G d_L_law_129 ?_
  refine j_lor G d_L_law_130 ?_
  refine j_aload_n G d_L_law_131 rfl ?_
  refine j_iload G d_L_law_132 rfl ?_
  refine j_iconst (v := 3) G d_L_law_134 (by decide) ?_
  refine j_iadd G d_L_law_135 ?_
  obtain ⟨v3, hv3, hm⟩ := Option.bind_eq_some_iff.mp hm
  refine j_scld G S d_L_law_136 hv3 ?_
  refine j_aload_n G d_L_law_137 rfl ?_
  refine j_iload G d_L_law_138 rfl ?_
  refine j_iconst (v := 4) G d_L_law_140 (by decide) ?_
  refine j_iadd G d_L_law_141 ?_
  obtain ⟨v4, hv4, hm⟩ := Option.bind_eq_some_iff.mp hm
  refine j_scld G S d_L_law_142 hv4 ?_
  refine j_i2l G d_L_law_143 ?_
  refine j_bipush (v := 32) G d_L_law_144 (by decide) ?_
  refine j_lshl G d_L_law_146 ?_
  refine j_aload_n G d_L_law_147 rfl ?_
  refine j_iload G d_L_law_148 rfl ?_
  refine j_iconst (v := 5) G d_L_law_150 (by decide) ?_
  refine j_iadd G d_L_law_151 ?_
  obtain ⟨v5, hv5, hm⟩ := Option.bind_eq_some_iff.mp hm
  refine j_scld G S d_L_law_152 hv5 ?_
  refine j_i2l G d_L_law_153 ?_
  refine j_ldc2 G d_L_law_154 wd_5_53 ?_
  refine j_land G d_L_law_157 ?_
  refine j_lor G d_L_law_158 ?_
  refine j_aload_n G d_L_law_159 rfl ?_
  refine j_iload G d_L_law_160 rfl ?_
  refine j_bipush (v := 6) G d_L_law_162 (by decide) ?_
  refine j_iadd G d_L_law_164 ?_
  obtain ⟨v6, hv6, hm⟩ := Option.bind_eq_some_iff.mp hm
  refine j_scld G S d_L_law_165 hv6 ?_
  obtain ⟨v7, hv7, hm⟩ := Option.bind_eq_some_iff.mp hm
  refine j_callSh (As := [aRf o, aL ((aj_lshl v1.toInt64 (32 : Int32)) ||| (v2.toInt64 &&& (4294967295 : Int64))), aI v3, aL ((aj_lshl v4.toInt64 (32 : Int32)) ||| (v5.toInt64 &&& (4294967295 : Int64))), aI v6]) G d_L_law_166 (ch_L_put _ G.off _ _ _ _ _ _ _ _ _ _ hv7) mh_L_put mhs_L_put wd_2_72 rfl rfl (Nat.le_of_ble_eq_true rfl) ⟨by decide, by decide⟩ ⟨by dsimp only [rm_L_law, rm_L_put]; omega, by dsimp only [rm_L_law, rm_L_put]; omega⟩ (fun v9 w9 hp => ?_)
  obtain ⟨rfl, rfl⟩ := hp
  refine j_istore G d_L_law_169 (by decide) ?_
  refine j_aload_n G d_L_law_171 rfl ?_
  refine j_aload_n G d_L_law_172 rfl ?_
  refine j_iload G d_L_law_173 rfl ?_
  refine j_iconst (v := 1) G d_L_law_175 (by decide) ?_
  refine j_iadd G d_L_law_176 ?_
  obtain ⟨v8, hv8, hm⟩ := Option.bind_eq_some_iff.mp hm
  refine j_scld G S d_L_law_177 hv8 ?_
  refine j_i2l G d_L_law_178 ?_
  refine j_bipush (v := 32) G d_L_law_179 (by decide) ?_
  refine j_lshl G d_L_law_181 ?_
  refine j_aload_n G d_L_law_182 rfl ?_
  refine j_iload G d_L_law_183 rfl ?_
  refine j_iconst (v := 2) G d_L_law_185 (by decide) ?_
  refine j_iadd G d_L_law_186 ?_
  obtain ⟨v9, hv9, hm⟩ := Option.bind_eq_some_iff.mp hm
  refine j_scld G S d_L_law_187 hv9 ?_
  refine j_i2l G d_L_law_188 ?_
  refine j_ldc2 G d_L_law_189 wd_5_53 ?_
  refine j_land G d_L_law_192 ?_
  refine j_lor G d_L_law_193 ?_
  refine j_aload_n G d_L_law_194 rfl ?_
  refine j_iload G d_L_law_195 rfl ?_
  refine j_iconst (v := 3) G d_L_law_197 (by decide) ?_
  refine j_iadd G d_L_law_198 ?_
  obtain ⟨v10, hv10, hm⟩ := Option.bind_eq_some_iff.mp hm
  refine j_scld G S d_L_law_199 hv10 ?_
  refine j_aload_n G d_L_law_200 rfl ?_
  refine j_iload G d_L_law_201 rfl ?_
  refine j_iconst (v := 4) G d_L_law_203 (by decide) ?_
  refine j_iadd G d_L_law_204 ?_
  obtain ⟨v11, hv11, hm⟩ := Option.bind_eq_some_iff.mp hm
  refine j_scld G S d_L_law_205 hv11 ?_
  refine j_i2l G d_L_law_206 ?_
  refine j_bipush (v := 32) G d_L_law_207 (by decide) ?_
  refine j_lshl G d_L_law_209 ?_
  refine j_aload_n G d_L_law_210 rfl ?_
  refine j_iload G d_L_law_211 rfl ?_
  refine j_iconst (v := 5) G d_L_law_213 (by decide) ?_
  refine j_iadd G d_L_law_214 ?_
  obtain ⟨v12, hv12, hm⟩ := Option.bind_eq_some_iff.mp hm
  refine j_scld G S d_L_law_215 hv12 ?_
  refine j_i2l G d_L_law_216 ?_
  refine j_ldc2 G d_L_law_217 wd_5_53 ?_
  refine j_land G d_L_law_220 ?_
  refine j_lor G d_L_law_221 ?_
  refine j_aload_n G d_L_law_222 rfl ?_
  refine j_iload G d_L_law_223 rfl ?_
  refine j_bipush (v := 6) G d_L_law_225 (by decide) ?_
  refine j_iadd G d_L_law_227 ?_
  obtain ⟨v13, hv13, hm⟩ := Option.bind_eq_some_iff.mp hm
  refine j_scld G S d_L_law_228 hv13 ?_
  obtain ⟨v14, hv14, hm⟩ := Option.bind_eq_some_iff.mp hm
  obtain ⟨v15, hv15, hm⟩ := Option.bind_eq_some_iff.mp hm
  refine j_callV (As := [aL ((aj_lshl v8.toInt64 (32 : Int32)) ||| (v9.toInt64 &&& (4294967295 : Int64))), aI v10, aL ((aj_lshl v11.toInt64 (32 : Int32)) ||| (v12.toInt64 &&& (4294967295 : Int64))), aI v13]) G d_L_law_229 (c_M_put _ G.off _ _ _ _ _ _ _ _ _ _ hv15) mw_M_put mi_M_put lk_L_71 rfl hv14 rfl rfl (Nat.le_of_ble_eq_true rfl) ⟨by decide, by decide⟩ ⟨by dsimp only [rm_L_law, rm_L_put, rm_M_put]; omega, by dsimp only [rm_L_law, rm_L_put, rm_M_put]; omega⟩ (fun v9 w9 hp => ?_)
  obtain ⟨rfl, rfl⟩ := hp
  refine j_aload_n G d_L_law_232 rfl ?_
  obtain ⟨v16, hv16, hm⟩ := Option.bind_eq_some_iff.mp hm
  obtain ⟨v17, hv17, hm⟩ := Option.bind_eq_some_iff.mp hm
  refine j_callV (As := []) G d_L_law_233 (c_M_thrown _ G.off _ _ _ _ _ _ hv17) mw_M_thrown mi_M_thrown lk_L_72 rfl hv16 rfl rfl (Nat.le_of_ble_eq_true rfl) ⟨by decide, by decide⟩ ⟨by dsimp only [rm_L_law, rm_L_put, rm_M_put, rm_M_thrown]; omega, by dsimp only [rm_L_law, rm_L_put, rm_M_put, rm_M_thrown]; omega⟩ (fun v9 w9 hp => ?_)
  obtain ⟨rfl, rfl⟩ := hp
  refine j_iload G d_L_law_236 rfl ?_
  refine j_icmp_eq (tgt := 243) G d_L_law_238 rfl (fun hc => ?_) (fun hc => ?_)
  · rw [if_pos hc] at hm
    refine j_goto (tgt := 992) G d_L_law_243 rfl ?_
    obtain rfl := Option.some.inj hm
    refine j_lv (aj_llv z o m a i) rfl ?_
    refine j_wide (k1 + 4, k2 + 24) (by dsimp only [rm_L_put, rm_M_put, rm_M_thrown]; omega) (by dsimp only [rm_L_put, rm_M_put, rm_M_thrown]; omega) ?_
    exact hK
  · rw [if_neg hc] at hm
    refine j_iconst (v := 0) G d_L_law_241 (by decide) ?_
    cases hm
noncomputable def f_L_case1 (w : aw_W) (o m a : Option Nat) (n : Nat) (sc : Nat → Int32) (i : Int32) : Option aw_W :=
  (aw_scr n sc (i + (1 : Int32))).bind fun v1 =>
  (aw_scr n sc (i + (2 : Int32))).bind fun v2 =>
  (aw_scr n sc (i + (3 : Int32))).bind fun v3 =>
  (f_L_delete w o ((aj_lshl v1.toInt64 (32 : Int32)) ||| (v2.toInt64 &&& (4294967295 : Int64))) v3 a).bind fun v4 =>
  (aw_scr n sc (i + (1 : Int32))).bind fun v5 =>
  (aw_scr n sc (i + (2 : Int32))).bind fun v6 =>
  (aw_scr n sc (i + (3 : Int32))).bind fun v7 =>
  (aw_obj v4.2 m 7).bind fun v8 =>
  (f_M_delete v4.2 m ((aj_lshl v5.toInt64 (32 : Int32)) ||| (v6.toInt64 &&& (4294967295 : Int64))) v7).bind fun v9 =>
  (aw_obj v9.2 m 7).bind fun v10 =>
  (f_M_thrown v9.2 m).bind fun v11 =>
  if v11 = v4.1 then
    if v4.1 = 0 then
      (aw_aL v9.2 a 2 (0 : Int32)).bind fun v12 =>
      (if v9.1 = 0 then
          some (0 : Int64)
        else
          some (1 : Int64) : Option (Int64)).bind fun j13 =>
      if (lg_cmp v12 j13) = 0 then
        some v9.2
      else
        none
    else
      some v9.2
  else
    none
set_option maxRecDepth 100000 in
set_option maxHeartbeats 4000000 in
theorem jc_1 {Γ : aj_G} {k1 k2 z n : Nat} {o m a : Option Nat} {sc : Nat → Int32} {i : Int32} {w w' : aw_W} (G : aj_ok Γ y_L_law b_L_law 8 (some .boolean) rm_L_law) (S : aj_sc Γ z n sc) (hk1 : k1 + 4 ≤ 601024) (hk2 : k2 + 24 ≤ 7293034) (hm : f_L_case1 w o m a n sc i = some w') (hK : aj_J Γ 8 (k1 + 4, k2 + 24) 992 (aj_llv z o m a i) [] w') : aj_J Γ 8 (k1, k2) 246 (aj_llv z o m a i) [] w := by
  unfold f_L_case1 at hm
  refine j_wide (k1 + 0, k2 + 0) (Nat.le_refl _) (Nat.le_refl _) ?_
  refine j_aload_n G d_L_law_246 rfl ?_
  refine j_aload_n G d_L_law_247 rfl ?_
  refine j_iload G d_L_law_248 rfl ?_
  refine j_iconst (v := 1) G d_L_law_250 (by decide) ?_
  refine j_iadd G d_L_law_251 ?_
  obtain ⟨v1, hv1, hm⟩ := Option.bind_eq_some_iff.mp hm
  refine j_scld G S d_L_law_252 hv1 ?_
  refine j_i2l G d_L_law_253 ?_
  refine j_bipush (v := 32) G d_L_law_254 (by decide) ?_
  refine j_lshl G d_L_law_256 ?_
  refine j_aload_n G d_L_law_257 rfl ?_
  refine j_iload G d_L_law_258 rfl ?_
  refine j_iconst (v := 2) G d_L_law_260 (by decide) ?_
  refine j_iadd G d_L_law_261 ?_
  obtain ⟨v2, hv2, hm⟩ := Option.bind_eq_some_iff.mp hm
  refine j_scld G S d_L_law_262 hv2 ?_
  refine j_i2l G d_L_law_263 ?_
  refine j_ldc2 G d_L_law_264 wd_5_53 ?_
  refine j_land G d_L_law_267 ?_
  refine j_lor G d_L_law_268 ?_
  refine j_aload_n G d_L_law_269 rfl ?_
  refine j_iload G d_L_law_270 rfl ?_
  refine j_iconst (v := 3) G d_L_law_272 (by decide) ?_
  refine j_iadd G d_L_law_273 ?_
  obtain ⟨v3, hv3, hm⟩ := Option.bind_eq_some_iff.mp hm
  refine j_scld G S d_L_law_274 hv3 ?_
  refine j_aload_n G d_L_law_275 rfl ?_
  obtain ⟨v4, hv4, hm⟩ := Option.bind_eq_some_iff.mp hm
  refine j_callSh (As := [aRf o, aL ((aj_lshl v1.toInt64 (32 : Int32)) ||| (v2.toInt64 &&& (4294967295 : Int64))), aI v3, aRf a]) G d_L_law_276 (ch_L_delete _ G.off _ _ _ _ _ _ _ _ _ hv4) mh_L_delete mhs_L_delete wd_3_8 rfl rfl (Nat.le_of_ble_eq_true rfl) ⟨by decide, by decide⟩ ⟨by dsimp only [rm_L_delete, rm_L_law]; omega, by dsimp only [rm_L_delete, rm_L_law]; omega⟩ (fun v9 w9 hp => ?_)
  obtain ⟨rfl, rfl⟩ := hp
  refine j_istore G d_L_law_279 (by decide) ?_
  refine j_aload_n G d_L_law_281 rfl ?_
  refine j_aload_n G d_L_law_282 rfl ?_
  refine j_iload G d_L_law_283 rfl ?_
  refine j_iconst (v := 1) G d_L_law_285 (by decide) ?_
  refine j_iadd G d_L_law_286 ?_
  obtain ⟨v5, hv5, hm⟩ := Option.bind_eq_some_iff.mp hm
  refine j_scld G S d_L_law_287 hv5 ?_
  refine j_i2l G d_L_law_288 ?_
  refine j_bipush (v := 32) G d_L_law_289 (by decide) ?_
  refine j_lshl G d_L_law_291 ?_
  refine j_aload_n G d_L_law_292 rfl ?_
  refine j_iload G d_L_law_293 rfl ?_
  refine j_iconst (v := 2) G d_L_law_295 (by decide) ?_
  refine j_iadd G d_L_law_296 ?_
  obtain ⟨v6, hv6, hm⟩ := Option.bind_eq_some_iff.mp hm
  refine j_scld G S d_L_law_297 hv6 ?_
  refine j_i2l G d_L_law_298 ?_
  refine j_ldc2 G d_L_law_299 wd_5_53 ?_
  refine j_land G d_L_law_302 ?_
  refine j_lor G d_L_law_303 ?_
  refine j_aload_n G d_L_law_304 rfl ?_
  refine j_iload G d_L_law_305 rfl ?_
  refine j_iconst (v := 3) G d_L_law_307 (by decide) ?_
  refine j_iadd G d_L_law_308 ?_
  obtain ⟨v7, hv7, hm⟩ := Option.bind_eq_some_iff.mp hm
  refine j_scld G S d_L_law_309 hv7 ?_
  obtain ⟨v8, hv8, hm⟩ := Option.bind_eq_some_iff.mp hm
  obtain ⟨v9, hv9, hm⟩ := Option.bind_eq_some_iff.mp hm
  refine j_callV (As := [aL ((aj_lshl v5.toInt64 (32 : Int32)) ||| (v6.toInt64 &&& (4294967295 : Int64))), aI v7]) G d_L_law_310 (c_M_delete _ G.off _ _ _ _ _ _ _ _ hv9) mw_M_delete mi_M_delete lk_L_78 rfl hv8 rfl rfl (Nat.le_of_ble_eq_true rfl) ⟨by decide, by decide⟩ ⟨by dsimp only [rm_L_delete, rm_L_law, rm_M_delete]; omega, by dsimp only [rm_L_delete, rm_L_law, rm_M_delete]; omega⟩ (fun v9 w9 hp => ?_)
  obtain ⟨rfl, rfl⟩ := hp
  refine j_istore G d_L_law_313 (by decide) ?_
  refine j_aload_n G d_L_law_315 rfl ?_
  obtain ⟨v10, hv10, hm⟩ := Option.bind_eq_some_iff.mp hm
  obtain ⟨v11, hv11, hm⟩ := Option.bind_eq_some_iff.mp hm
  refine j_callV (As := []) G d_L_law_316 (c_M_thrown _ G.off _ _ _ _ _ _ hv11) mw_M_thrown mi_M_thrown lk_L_72 rfl hv10 rfl rfl (Nat.le_of_ble_eq_true rfl) ⟨by decide, by decide⟩ ⟨by dsimp only [rm_L_delete, rm_L_law, rm_M_delete, rm_M_thrown]; omega, by dsimp only [rm_L_delete, rm_L_law, rm_M_delete, rm_M_thrown]; omega⟩ (fun v9 w9 hp => ?_)
  obtain ⟨rfl, rfl⟩ := hp
  refine j_iload G d_L_law_319 rfl ?_
  refine j_icmp_eq (tgt := 326) G d_L_law_321 rfl (fun hc => ?_) (fun hc => ?_)
  · rw [if_pos hc] at hm
    refine j_iload G d_L_law_326 rfl ?_
    refine j_if_ne (tgt := 350) G d_L_law_328 rfl (fun hc => ?_) (fun hc => ?_)
    · rw [if_neg hc] at hm
      refine j_goto (tgt := 992) G d_L_law_350 rfl ?_
      obtain rfl := Option.some.inj hm
      refine j_lv (aj_llv z o m a i) rfl ?_
      refine j_wide (k1 + 4, k2 + 24) (by dsimp only [rm_L_delete, rm_M_delete, rm_M_thrown]; omega) (by dsimp only [rm_L_delete, rm_M_delete, rm_M_thrown]; omega) ?_
      exact hK
    · rw [if_pos hc] at hm
      refine j_aload_n G d_L_law_331 rfl ?_
      refine j_iconst (v := 0) G d_L_law_332 (by decide) ?_
      obtain ⟨v12, hv12, hm⟩ := Option.bind_eq_some_iff.mp hm
      refine j_lald G d_L_law_333 hv12 ?_
      refine j_iload G d_L_law_334 rfl ?_
      obtain ⟨j13, hj13, ho13⟩ := Option.bind_eq_some_iff.mp hm
      clear hm
      have hJ13 : aj_J Γ 8 (k1 + 3, k2 + 18) 344 [(0, aRf (some z)), (1, aRf o), (2, aRf m), (3, aRf a), (4, aI i)] [aL j13, aL v12] v9.2 := by
        clear hj13
        have hm := ho13
        clear ho13
        refine j_lcmp G d_L_law_344 ?_
        refine j_if_eq (tgt := 350) G d_L_law_345 rfl (fun hc => ?_) (fun hc => ?_)
        · rw [if_pos hc] at hm
          refine j_goto (tgt := 992) G d_L_law_350 rfl ?_
          obtain rfl := Option.some.inj hm
          refine j_lv (aj_llv z o m a i) rfl ?_
          refine j_wide (k1 + 4, k2 + 24) (by dsimp only [rm_L_delete, rm_M_delete, rm_M_thrown]; omega) (by dsimp only [rm_L_delete, rm_M_delete, rm_M_thrown]; omega) ?_
          exact hK
        · rw [if_neg hc] at hm
          refine j_iconst (v := 0) G d_L_law_348 (by decide) ?_
          cases hm
      clear ho13
      have hm := hj13
      clear hj13
      refine j_if_eq (tgt := 343) G d_L_law_336 rfl (fun hc => ?_) (fun hc => ?_)
      · rw [if_pos hc] at hm
        refine j_lconst (v := 0) G d_L_law_343 (by decide) ?_
        obtain rfl := Option.some.inj hm
        refine j_lv [(0, aRf (some z)), (1, aRf o), (2, aRf m), (3, aRf a), (4, aI i)] rfl ?_
        exact hJ13
      · rw [if_neg hc] at hm
        refine j_lconst (v := 1) G d_L_law_339 (by decide) ?_
        refine j_goto (tgt := 344) G d_L_law_340 rfl ?_
        obtain rfl := Option.some.inj hm
        refine j_lv [(0, aRf (some z)), (1, aRf o), (2, aRf m), (3, aRf a), (4, aI i)] rfl ?_
        exact hJ13
  · rw [if_neg hc] at hm
    refine j_iconst (v := 0) G d_L_law_324 (by decide) ?_
    cases hm
noncomputable def f_L_case2 (w : aw_W) (o m a : Option Nat) (n : Nat) (sc : Nat → Int32) (i : Int32) : Option aw_W :=
  (aw_scr n sc (i + (1 : Int32))).bind fun v1 =>
  (aw_scr n sc (i + (2 : Int32))).bind fun v2 =>
  (aw_scr n sc (i + (3 : Int32))).bind fun v3 =>
  (f_L_get w o ((aj_lshl v1.toInt64 (32 : Int32)) ||| (v2.toInt64 &&& (4294967295 : Int64))) v3 a).bind fun v4 =>
  (aw_scr n sc (i + (1 : Int32))).bind fun v5 =>
  (aw_scr n sc (i + (2 : Int32))).bind fun v6 =>
  (aw_scr n sc (i + (3 : Int32))).bind fun v7 =>
  (aw_obj v4.2 m 7).bind fun v8 =>
  (f_M_get v4.2 m ((aj_lshl v5.toInt64 (32 : Int32)) ||| (v6.toInt64 &&& (4294967295 : Int64))) v7).bind fun v9 =>
  (aw_obj v9.2 m 7).bind fun v10 =>
  (f_M_thrown v9.2 m).bind fun v11 =>
  if v11 = v4.1 then
    if v4.1 = 0 then
      (aw_aL v9.2 a 2 (0 : Int32)).bind fun v12 =>
      if (lg_cmp v12 v9.1) = 0 then
        some v9.2
      else
        none
    else
      some v9.2
  else
    none
set_option maxRecDepth 100000 in
set_option maxHeartbeats 4000000 in
theorem jc_2 {Γ : aj_G} {k1 k2 z n : Nat} {o m a : Option Nat} {sc : Nat → Int32} {i : Int32} {w w' : aw_W} (G : aj_ok Γ y_L_law b_L_law 8 (some .boolean) rm_L_law) (S : aj_sc Γ z n sc) (hk1 : k1 + 4 ≤ 601024) (hk2 : k2 + 24 ≤ 7293034) (hm : f_L_case2 w o m a n sc i = some w') (hK : aj_J Γ 8 (k1 + 4, k2 + 24) 992 (aj_llv z o m a i) [] w') : aj_J Γ 8 (k1, k2) 353 (aj_llv z o m a i) [] w := by
  unfold f_L_case2 at hm
  refine j_wide (k1 + 0, k2 + 0) (Nat.le_refl _) (Nat.le_refl _) ?_
  refine j_aload_n G d_L_law_353 rfl ?_
  refine j_aload_n G d_L_law_354 rfl ?_
  refine j_iload G d_L_law_355 rfl ?_
  refine j_iconst (v := 1) G d_L_law_357 (by decide) ?_
  refine j_iadd G d_L_law_358 ?_
  obtain ⟨v1, hv1, hm⟩ := Option.bind_eq_some_iff.mp hm
  refine j_scld G S d_L_law_359 hv1 ?_
  refine j_i2l G d_L_law_360 ?_
  refine j_bipush (v := 32) G d_L_law_361 (by decide) ?_
  refine j_lshl G d_L_law_363 ?_
  refine j_aload_n G d_L_law_364 rfl ?_
  refine j_iload G d_L_law_365 rfl ?_
  refine j_iconst (v := 2) G d_L_law_367 (by decide) ?_
  refine j_iadd G d_L_law_368 ?_
  obtain ⟨v2, hv2, hm⟩ := Option.bind_eq_some_iff.mp hm
  refine j_scld G S d_L_law_369 hv2 ?_
  refine j_i2l G d_L_law_370 ?_
  refine j_ldc2 G d_L_law_371 wd_5_53 ?_
  refine j_land G d_L_law_374 ?_
  refine j_lor G d_L_law_375 ?_
  refine j_aload_n G d_L_law_376 rfl ?_
  refine j_iload G d_L_law_377 rfl ?_
  refine j_iconst (v := 3) G d_L_law_379 (by decide) ?_
  refine j_iadd G d_L_law_380 ?_
  obtain ⟨v3, hv3, hm⟩ := Option.bind_eq_some_iff.mp hm
  refine j_scld G S d_L_law_381 hv3 ?_
  refine j_aload_n G d_L_law_382 rfl ?_
  obtain ⟨v4, hv4, hm⟩ := Option.bind_eq_some_iff.mp hm
  refine j_callSh (As := [aRf o, aL ((aj_lshl v1.toInt64 (32 : Int32)) ||| (v2.toInt64 &&& (4294967295 : Int64))), aI v3, aRf a]) G d_L_law_383 (ch_L_get _ G.off _ _ _ _ _ _ _ _ _ hv4) mh_L_get mhs_L_get wd_3_19 rfl rfl (Nat.le_of_ble_eq_true rfl) ⟨by decide, by decide⟩ ⟨by dsimp only [rm_L_get, rm_L_law]; omega, by dsimp only [rm_L_get, rm_L_law]; omega⟩ (fun v9 w9 hp => ?_)
  obtain ⟨rfl, rfl⟩ := hp
  refine j_istore G d_L_law_386 (by decide) ?_
  refine j_aload_n G d_L_law_388 rfl ?_
  refine j_aload_n G d_L_law_389 rfl ?_
  refine j_iload G d_L_law_390 rfl ?_
  refine j_iconst (v := 1) G d_L_law_392 (by decide) ?_
  refine j_iadd G d_L_law_393 ?_
  obtain ⟨v5, hv5, hm⟩ := Option.bind_eq_some_iff.mp hm
  refine j_scld G S d_L_law_394 hv5 ?_
  refine j_i2l G d_L_law_395 ?_
  refine j_bipush (v := 32) G d_L_law_396 (by decide) ?_
  refine j_lshl G d_L_law_398 ?_
  refine j_aload_n G d_L_law_399 rfl ?_
  refine j_iload G d_L_law_400 rfl ?_
  refine j_iconst (v := 2) G d_L_law_402 (by decide) ?_
  refine j_iadd G d_L_law_403 ?_
  obtain ⟨v6, hv6, hm⟩ := Option.bind_eq_some_iff.mp hm
  refine j_scld G S d_L_law_404 hv6 ?_
  refine j_i2l G d_L_law_405 ?_
  refine j_ldc2 G d_L_law_406 wd_5_53 ?_
  refine j_land G d_L_law_409 ?_
  refine j_lor G d_L_law_410 ?_
  refine j_aload_n G d_L_law_411 rfl ?_
  refine j_iload G d_L_law_412 rfl ?_
  refine j_iconst (v := 3) G d_L_law_414 (by decide) ?_
  refine j_iadd G d_L_law_415 ?_
  obtain ⟨v7, hv7, hm⟩ := Option.bind_eq_some_iff.mp hm
  refine j_scld G S d_L_law_416 hv7 ?_
  obtain ⟨v8, hv8, hm⟩ := Option.bind_eq_some_iff.mp hm
  obtain ⟨v9, hv9, hm⟩ := Option.bind_eq_some_iff.mp hm
  refine j_callV (As := [aL ((aj_lshl v5.toInt64 (32 : Int32)) ||| (v6.toInt64 &&& (4294967295 : Int64))), aI v7]) G d_L_law_417 (c_M_get _ G.off _ _ _ _ _ _ _ _ hv9) mw_M_get mi_M_get lk_L_81 rfl hv8 rfl rfl (Nat.le_of_ble_eq_true rfl) ⟨by decide, by decide⟩ ⟨by dsimp only [rm_L_get, rm_L_law, rm_M_get]; omega, by dsimp only [rm_L_get, rm_L_law, rm_M_get]; omega⟩ (fun v9 w9 hp => ?_)
  obtain ⟨rfl, rfl⟩ := hp
  refine j_lstore G d_L_law_420 (by decide) ?_
  refine j_aload_n G d_L_law_422 rfl ?_
  obtain ⟨v10, hv10, hm⟩ := Option.bind_eq_some_iff.mp hm
  obtain ⟨v11, hv11, hm⟩ := Option.bind_eq_some_iff.mp hm
  refine j_callV (As := []) G d_L_law_423 (c_M_thrown _ G.off _ _ _ _ _ _ hv11) mw_M_thrown mi_M_thrown lk_L_72 rfl hv10 rfl rfl (Nat.le_of_ble_eq_true rfl) ⟨by decide, by decide⟩ ⟨by dsimp only [rm_L_get, rm_L_law, rm_M_get, rm_M_thrown]; omega, by dsimp only [rm_L_get, rm_L_law, rm_M_get, rm_M_thrown]; omega⟩ (fun v9 w9 hp => ?_)
  obtain ⟨rfl, rfl⟩ := hp
  refine j_iload G d_L_law_426 rfl ?_
  refine j_icmp_eq (tgt := 433) G d_L_law_428 rfl (fun hc => ?_) (fun hc => ?_)
  · rw [if_pos hc] at hm
    refine j_iload G d_L_law_433 rfl ?_
    refine j_if_ne (tgt := 449) G d_L_law_435 rfl (fun hc => ?_) (fun hc => ?_)
    · rw [if_neg hc] at hm
      refine j_goto (tgt := 992) G d_L_law_449 rfl ?_
      obtain rfl := Option.some.inj hm
      refine j_lv (aj_llv z o m a i) rfl ?_
      refine j_wide (k1 + 4, k2 + 24) (by dsimp only [rm_L_get, rm_M_get, rm_M_thrown]; omega) (by dsimp only [rm_L_get, rm_M_get, rm_M_thrown]; omega) ?_
      exact hK
    · rw [if_pos hc] at hm
      refine j_aload_n G d_L_law_438 rfl ?_
      refine j_iconst (v := 0) G d_L_law_439 (by decide) ?_
      obtain ⟨v12, hv12, hm⟩ := Option.bind_eq_some_iff.mp hm
      refine j_lald G d_L_law_440 hv12 ?_
      refine j_lload G d_L_law_441 rfl ?_
      refine j_lcmp G d_L_law_443 ?_
      refine j_if_eq (tgt := 449) G d_L_law_444 rfl (fun hc => ?_) (fun hc => ?_)
      · rw [if_pos hc] at hm
        refine j_goto (tgt := 992) G d_L_law_449 rfl ?_
        obtain rfl := Option.some.inj hm
        refine j_lv (aj_llv z o m a i) rfl ?_
        refine j_wide (k1 + 4, k2 + 24) (by dsimp only [rm_L_get, rm_M_get, rm_M_thrown]; omega) (by dsimp only [rm_L_get, rm_M_get, rm_M_thrown]; omega) ?_
        exact hK
      · rw [if_neg hc] at hm
        refine j_iconst (v := 0) G d_L_law_447 (by decide) ?_
        cases hm
  · rw [if_neg hc] at hm
    refine j_iconst (v := 0) G d_L_law_431 (by decide) ?_
    cases hm
noncomputable def f_L_case3 (w : aw_W) (o m a : Option Nat) (n : Nat) (sc : Nat → Int32) (i : Int32) : Option aw_W :=
  (f_L_keys w o a).bind fun v1 =>
  (aw_obj v1.2 m 7).bind fun v2 =>
  (f_M_keys v1.2 m).bind fun v3 =>
  (aw_obj v3.2 m 7).bind fun v4 =>
  (f_M_thrown v3.2 m).bind fun v5 =>
  if v5 = v1.1 then
    if v1.1 = 0 then
      (aw_aL v3.2 a 2 (0 : Int32)).bind fun v6 =>
      if (lg_cmp v6 v3.1.toInt64) = 0 then
        some v3.2
      else
        none
    else
      some v3.2
  else
    none
set_option maxRecDepth 100000 in
set_option maxHeartbeats 4000000 in
theorem jc_3 {Γ : aj_G} {k1 k2 z n : Nat} {o m a : Option Nat} {sc : Nat → Int32} {i : Int32} {w w' : aw_W} (G : aj_ok Γ y_L_law b_L_law 8 (some .boolean) rm_L_law) (S : aj_sc Γ z n sc) (hk1 : k1 + 4 ≤ 601024) (hk2 : k2 + 24 ≤ 7293034) (hm : f_L_case3 w o m a n sc i = some w') (hK : aj_J Γ 8 (k1 + 4, k2 + 24) 992 (aj_llv z o m a i) [] w') : aj_J Γ 8 (k1, k2) 452 (aj_llv z o m a i) [] w := by
  unfold f_L_case3 at hm
  refine j_wide (k1 + 0, k2 + 0) (Nat.le_refl _) (Nat.le_refl _) ?_
  refine j_aload_n G d_L_law_452 rfl ?_
  refine j_aload_n G d_L_law_453 rfl ?_
  obtain ⟨v1, hv1, hm⟩ := Option.bind_eq_some_iff.mp hm
  refine j_callSh (As := [aRf o, aRf a]) G d_L_law_454 (ch_L_keys _ G.off _ _ _ _ _ _ _ hv1) mh_L_keys mhs_L_keys wd_3_66 rfl rfl (Nat.le_of_ble_eq_true rfl) ⟨by decide, by decide⟩ ⟨by dsimp only [rm_L_keys, rm_L_law]; omega, by dsimp only [rm_L_keys, rm_L_law]; omega⟩ (fun v9 w9 hp => ?_)
  obtain ⟨rfl, rfl⟩ := hp
  refine j_istore G d_L_law_457 (by decide) ?_
  refine j_aload_n G d_L_law_459 rfl ?_
  obtain ⟨v2, hv2, hm⟩ := Option.bind_eq_some_iff.mp hm
  obtain ⟨v3, hv3, hm⟩ := Option.bind_eq_some_iff.mp hm
  refine j_callV (As := []) G d_L_law_460 (c_M_keys _ G.off _ _ _ _ _ _ hv3) mw_M_keys mi_M_keys lk_L_85 rfl hv2 rfl rfl (Nat.le_of_ble_eq_true rfl) ⟨by decide, by decide⟩ ⟨by dsimp only [rm_L_keys, rm_L_law, rm_M_keys]; omega, by dsimp only [rm_L_keys, rm_L_law, rm_M_keys]; omega⟩ (fun v9 w9 hp => ?_)
  obtain ⟨rfl, rfl⟩ := hp
  refine j_istore G d_L_law_463 (by decide) ?_
  refine j_aload_n G d_L_law_465 rfl ?_
  obtain ⟨v4, hv4, hm⟩ := Option.bind_eq_some_iff.mp hm
  obtain ⟨v5, hv5, hm⟩ := Option.bind_eq_some_iff.mp hm
  refine j_callV (As := []) G d_L_law_466 (c_M_thrown _ G.off _ _ _ _ _ _ hv5) mw_M_thrown mi_M_thrown lk_L_72 rfl hv4 rfl rfl (Nat.le_of_ble_eq_true rfl) ⟨by decide, by decide⟩ ⟨by dsimp only [rm_L_keys, rm_L_law, rm_M_keys, rm_M_thrown]; omega, by dsimp only [rm_L_keys, rm_L_law, rm_M_keys, rm_M_thrown]; omega⟩ (fun v9 w9 hp => ?_)
  obtain ⟨rfl, rfl⟩ := hp
  refine j_iload G d_L_law_469 rfl ?_
  refine j_icmp_eq (tgt := 476) G d_L_law_471 rfl (fun hc => ?_) (fun hc => ?_)
  · rw [if_pos hc] at hm
    refine j_iload G d_L_law_476 rfl ?_
    refine j_if_ne (tgt := 493) G d_L_law_478 rfl (fun hc => ?_) (fun hc => ?_)
    · rw [if_neg hc] at hm
      refine j_goto (tgt := 992) G d_L_law_493 rfl ?_
      obtain rfl := Option.some.inj hm
      refine j_lv (aj_llv z o m a i) rfl ?_
      refine j_wide (k1 + 4, k2 + 24) (by dsimp only [rm_L_keys, rm_M_keys, rm_M_thrown]; omega) (by dsimp only [rm_L_keys, rm_M_keys, rm_M_thrown]; omega) ?_
      exact hK
    · rw [if_pos hc] at hm
      refine j_aload_n G d_L_law_481 rfl ?_
      refine j_iconst (v := 0) G d_L_law_482 (by decide) ?_
      obtain ⟨v6, hv6, hm⟩ := Option.bind_eq_some_iff.mp hm
      refine j_lald G d_L_law_483 hv6 ?_
      refine j_iload G d_L_law_484 rfl ?_
      refine j_i2l G d_L_law_486 ?_
      refine j_lcmp G d_L_law_487 ?_
      refine j_if_eq (tgt := 493) G d_L_law_488 rfl (fun hc => ?_) (fun hc => ?_)
      · rw [if_pos hc] at hm
        refine j_goto (tgt := 992) G d_L_law_493 rfl ?_
        obtain rfl := Option.some.inj hm
        refine j_lv (aj_llv z o m a i) rfl ?_
        refine j_wide (k1 + 4, k2 + 24) (by dsimp only [rm_L_keys, rm_M_keys, rm_M_thrown]; omega) (by dsimp only [rm_L_keys, rm_M_keys, rm_M_thrown]; omega) ?_
        exact hK
      · rw [if_neg hc] at hm
        refine j_iconst (v := 0) G d_L_law_491 (by decide) ?_
        cases hm
  · rw [if_neg hc] at hm
    refine j_iconst (v := 0) G d_L_law_474 (by decide) ?_
    cases hm
noncomputable def f_L_case4 (w : aw_W) (o m a : Option Nat) (n : Nat) (sc : Nat → Int32) (i : Int32) : Option aw_W :=
  (aw_scr n sc (i + (1 : Int32))).bind fun v1 =>
  (aw_scr n sc (i + (2 : Int32))).bind fun v2 =>
  (f_L_key w o v1 v2 a).bind fun v3 =>
  (aw_scr n sc (i + (1 : Int32))).bind fun v4 =>
  (aw_scr n sc (i + (2 : Int32))).bind fun v5 =>
  (aw_obj v3.2 m 7).bind fun v6 =>
  (f_M_key v3.2 m v4 v5).bind fun v7 =>
  (aw_obj v7.2 m 7).bind fun v8 =>
  (f_M_thrown v7.2 m).bind fun v9 =>
  if v9 = v3.1 then
    if v3.1 = 0 then
      (aw_aL v7.2 a 2 (0 : Int32)).bind fun v10 =>
      if (lg_cmp v10 v7.1) = 0 then
        some v7.2
      else
        none
    else
      some v7.2
  else
    none
set_option maxRecDepth 100000 in
set_option maxHeartbeats 4000000 in
theorem jc_4 {Γ : aj_G} {k1 k2 z n : Nat} {o m a : Option Nat} {sc : Nat → Int32} {i : Int32} {w w' : aw_W} (G : aj_ok Γ y_L_law b_L_law 8 (some .boolean) rm_L_law) (S : aj_sc Γ z n sc) (hk1 : k1 + 4 ≤ 601024) (hk2 : k2 + 24 ≤ 7293034) (hm : f_L_case4 w o m a n sc i = some w') (hK : aj_J Γ 8 (k1 + 4, k2 + 24) 992 (aj_llv z o m a i) [] w') : aj_J Γ 8 (k1, k2) 496 (aj_llv z o m a i) [] w := by
  unfold f_L_case4 at hm
  refine j_wide (k1 + 0, k2 + 0) (Nat.le_refl _) (Nat.le_refl _) ?_
  refine j_aload_n G d_L_law_496 rfl ?_
  refine j_aload_n G d_L_law_497 rfl ?_
  refine j_iload G d_L_law_498 rfl ?_
  refine j_iconst (v := 1) G d_L_law_500 (by decide) ?_
  refine j_iadd G d_L_law_501 ?_
  obtain ⟨v1, hv1, hm⟩ := Option.bind_eq_some_iff.mp hm
  refine j_scld G S d_L_law_502 hv1 ?_
  refine j_aload_n G d_L_law_503 rfl ?_
  refine j_iload G d_L_law_504 rfl ?_
  refine j_iconst (v := 2) G d_L_law_506 (by decide) ?_
  refine j_iadd G d_L_law_507 ?_
  obtain ⟨v2, hv2, hm⟩ := Option.bind_eq_some_iff.mp hm
  refine j_scld G S d_L_law_508 hv2 ?_
  refine j_aload_n G d_L_law_509 rfl ?_
  obtain ⟨v3, hv3, hm⟩ := Option.bind_eq_some_iff.mp hm
  refine j_callSh (As := [aRf o, aI v1, aI v2, aRf a]) G d_L_law_510 (ch_L_key _ G.off _ _ _ _ _ _ _ _ _ hv3) mh_L_key mhs_L_key wd_3_73 rfl rfl (Nat.le_of_ble_eq_true rfl) ⟨by decide, by decide⟩ ⟨by dsimp only [rm_L_key, rm_L_law]; omega, by dsimp only [rm_L_key, rm_L_law]; omega⟩ (fun v9 w9 hp => ?_)
  obtain ⟨rfl, rfl⟩ := hp
  refine j_istore G d_L_law_513 (by decide) ?_
  refine j_aload_n G d_L_law_515 rfl ?_
  refine j_aload_n G d_L_law_516 rfl ?_
  refine j_iload G d_L_law_517 rfl ?_
  refine j_iconst (v := 1) G d_L_law_519 (by decide) ?_
  refine j_iadd G d_L_law_520 ?_
  obtain ⟨v4, hv4, hm⟩ := Option.bind_eq_some_iff.mp hm
  refine j_scld G S d_L_law_521 hv4 ?_
  refine j_aload_n G d_L_law_522 rfl ?_
  refine j_iload G d_L_law_523 rfl ?_
  refine j_iconst (v := 2) G d_L_law_525 (by decide) ?_
  refine j_iadd G d_L_law_526 ?_
  obtain ⟨v5, hv5, hm⟩ := Option.bind_eq_some_iff.mp hm
  refine j_scld G S d_L_law_527 hv5 ?_
  obtain ⟨v6, hv6, hm⟩ := Option.bind_eq_some_iff.mp hm
  obtain ⟨v7, hv7, hm⟩ := Option.bind_eq_some_iff.mp hm
  refine j_callV (As := [aI v4, aI v5]) G d_L_law_528 (c_M_key _ G.off _ _ _ _ _ _ _ _ hv7) mw_M_key mi_M_key lk_L_89 rfl hv6 rfl rfl (Nat.le_of_ble_eq_true rfl) ⟨by decide, by decide⟩ ⟨by dsimp only [rm_L_key, rm_L_law, rm_M_key]; omega, by dsimp only [rm_L_key, rm_L_law, rm_M_key]; omega⟩ (fun v9 w9 hp => ?_)
  obtain ⟨rfl, rfl⟩ := hp
  refine j_lstore G d_L_law_531 (by decide) ?_
  refine j_aload_n G d_L_law_533 rfl ?_
  obtain ⟨v8, hv8, hm⟩ := Option.bind_eq_some_iff.mp hm
  obtain ⟨v9, hv9, hm⟩ := Option.bind_eq_some_iff.mp hm
  refine j_callV (As := []) G d_L_law_534 (c_M_thrown _ G.off _ _ _ _ _ _ hv9) mw_M_thrown mi_M_thrown lk_L_72 rfl hv8 rfl rfl (Nat.le_of_ble_eq_true rfl) ⟨by decide, by decide⟩ ⟨by dsimp only [rm_L_key, rm_L_law, rm_M_key, rm_M_thrown]; omega, by dsimp only [rm_L_key, rm_L_law, rm_M_key, rm_M_thrown]; omega⟩ (fun v9 w9 hp => ?_)
  obtain ⟨rfl, rfl⟩ := hp
  refine j_iload G d_L_law_537 rfl ?_
  refine j_icmp_eq (tgt := 544) G d_L_law_539 rfl (fun hc => ?_) (fun hc => ?_)
  · rw [if_pos hc] at hm
    refine j_iload G d_L_law_544 rfl ?_
    refine j_if_ne (tgt := 560) G d_L_law_546 rfl (fun hc => ?_) (fun hc => ?_)
    · rw [if_neg hc] at hm
      refine j_goto (tgt := 992) G d_L_law_560 rfl ?_
      obtain rfl := Option.some.inj hm
      refine j_lv (aj_llv z o m a i) rfl ?_
      refine j_wide (k1 + 4, k2 + 24) (by dsimp only [rm_L_key, rm_M_key, rm_M_thrown]; omega) (by dsimp only [rm_L_key, rm_M_key, rm_M_thrown]; omega) ?_
      exact hK
    · rw [if_pos hc] at hm
      refine j_aload_n G d_L_law_549 rfl ?_
      refine j_iconst (v := 0) G d_L_law_550 (by decide) ?_
      obtain ⟨v10, hv10, hm⟩ := Option.bind_eq_some_iff.mp hm
      refine j_lald G d_L_law_551 hv10 ?_
      refine j_lload G d_L_law_552 rfl ?_
      refine j_lcmp G d_L_law_554 ?_
      refine j_if_eq (tgt := 560) G d_L_law_555 rfl (fun hc => ?_) (fun hc => ?_)
      · rw [if_pos hc] at hm
        refine j_goto (tgt := 992) G d_L_law_560 rfl ?_
        obtain rfl := Option.some.inj hm
        refine j_lv (aj_llv z o m a i) rfl ?_
        refine j_wide (k1 + 4, k2 + 24) (by dsimp only [rm_L_key, rm_M_key, rm_M_thrown]; omega) (by dsimp only [rm_L_key, rm_M_key, rm_M_thrown]; omega) ?_
        exact hK
      · rw [if_neg hc] at hm
        refine j_iconst (v := 0) G d_L_law_558 (by decide) ?_
        cases hm
  · rw [if_neg hc] at hm
    refine j_iconst (v := 0) G d_L_law_542 (by decide) ?_
    cases hm
noncomputable def f_L_case5 (w : aw_W) (o m a : Option Nat) (n : Nat) (sc : Nat → Int32) (i : Int32) : Option aw_W :=
  (f_L_sync w o).bind fun v1 =>
  (aw_obj v1.2 m 7).bind fun v2 =>
  (f_M_sync v1.2 m).bind fun v3 =>
  (aw_obj v3 m 7).bind fun v4 =>
  (f_M_thrown v3 m).bind fun v5 =>
  if v5 = v1.1 then
    some v3
  else
    none
set_option maxRecDepth 100000 in
set_option maxHeartbeats 4000000 in
theorem jc_5 {Γ : aj_G} {k1 k2 z n : Nat} {o m a : Option Nat} {sc : Nat → Int32} {i : Int32} {w w' : aw_W} (G : aj_ok Γ y_L_law b_L_law 8 (some .boolean) rm_L_law) (S : aj_sc Γ z n sc) (hk1 : k1 + 4 ≤ 601024) (hk2 : k2 + 24 ≤ 7293034) (hm : f_L_case5 w o m a n sc i = some w') (hK : aj_J Γ 8 (k1 + 4, k2 + 24) 992 (aj_llv z o m a i) [] w') : aj_J Γ 8 (k1, k2) 563 (aj_llv z o m a i) [] w := by
  unfold f_L_case5 at hm
  refine j_wide (k1 + 0, k2 + 0) (Nat.le_refl _) (Nat.le_refl _) ?_
  refine j_aload_n G d_L_law_563 rfl ?_
  obtain ⟨v1, hv1, hm⟩ := Option.bind_eq_some_iff.mp hm
  refine j_callSh (As := [aRf o]) G d_L_law_564 (ch_L_sync _ G.off _ _ _ _ _ _ hv1) mh_L_sync mhs_L_sync wd_3_91 rfl rfl (Nat.le_of_ble_eq_true rfl) ⟨by decide, by decide⟩ ⟨by dsimp only [rm_L_law, rm_L_sync]; omega, by dsimp only [rm_L_law, rm_L_sync]; omega⟩ (fun v9 w9 hp => ?_)
  obtain ⟨rfl, rfl⟩ := hp
  refine j_istore G d_L_law_567 (by decide) ?_
  refine j_aload_n G d_L_law_569 rfl ?_
  obtain ⟨v2, hv2, hm⟩ := Option.bind_eq_some_iff.mp hm
  obtain ⟨v3, hv3, hm⟩ := Option.bind_eq_some_iff.mp hm
  refine j_callV (As := []) G d_L_law_570 (c_M_sync _ G.off _ _ _ _ _ _ hv3) mw_M_sync mi_M_sync lk_L_93 rfl hv2 rfl rfl (Nat.le_of_ble_eq_true rfl) ⟨by decide, by decide⟩ ⟨by dsimp only [rm_L_law, rm_L_sync, rm_M_sync]; omega, by dsimp only [rm_L_law, rm_L_sync, rm_M_sync]; omega⟩ (fun v9 w9 hp => ?_)
  obtain ⟨rfl, rfl⟩ := hp
  refine j_aload_n G d_L_law_573 rfl ?_
  obtain ⟨v4, hv4, hm⟩ := Option.bind_eq_some_iff.mp hm
  obtain ⟨v5, hv5, hm⟩ := Option.bind_eq_some_iff.mp hm
  refine j_callV (As := []) G d_L_law_574 (c_M_thrown _ G.off _ _ _ _ _ _ hv5) mw_M_thrown mi_M_thrown lk_L_72 rfl hv4 rfl rfl (Nat.le_of_ble_eq_true rfl) ⟨by decide, by decide⟩ ⟨by dsimp only [rm_L_law, rm_L_sync, rm_M_sync, rm_M_thrown]; omega, by dsimp only [rm_L_law, rm_L_sync, rm_M_sync, rm_M_thrown]; omega⟩ (fun v9 w9 hp => ?_)
  obtain ⟨rfl, rfl⟩ := hp
  refine j_iload G d_L_law_577 rfl ?_
  refine j_icmp_eq (tgt := 584) G d_L_law_579 rfl (fun hc => ?_) (fun hc => ?_)
  · rw [if_pos hc] at hm
    refine j_goto (tgt := 992) G d_L_law_584 rfl ?_
    obtain rfl := Option.some.inj hm
    refine j_lv (aj_llv z o m a i) rfl ?_
    refine j_wide (k1 + 4, k2 + 24) (by dsimp only [rm_L_sync, rm_M_sync, rm_M_thrown]; omega) (by dsimp only [rm_L_sync, rm_M_sync, rm_M_thrown]; omega) ?_
    exact hK
  · rw [if_neg hc] at hm
    refine j_iconst (v := 0) G d_L_law_582 (by decide) ?_
    cases hm
noncomputable def f_L_case6 (w : aw_W) (o m a : Option Nat) (n : Nat) (sc : Nat → Int32) (i : Int32) : Option aw_W :=
  (aw_scr n sc (i + (1 : Int32))).bind fun v1 =>
  (f_L_lose w o v1).bind fun v2 =>
  (aw_scr n sc (i + (1 : Int32))).bind fun v3 =>
  (aw_obj v2.2 m 7).bind fun v4 =>
  (f_M_lose v2.2 m v3).bind fun v5 =>
  (aw_obj v5 m 7).bind fun v6 =>
  (f_M_thrown v5 m).bind fun v7 =>
  if v7 = v2.1 then
    some v5
  else
    none
set_option maxRecDepth 100000 in
set_option maxHeartbeats 4000000 in
theorem jc_6 {Γ : aj_G} {k1 k2 z n : Nat} {o m a : Option Nat} {sc : Nat → Int32} {i : Int32} {w w' : aw_W} (G : aj_ok Γ y_L_law b_L_law 8 (some .boolean) rm_L_law) (S : aj_sc Γ z n sc) (hk1 : k1 + 4 ≤ 601024) (hk2 : k2 + 24 ≤ 7293034) (hm : f_L_case6 w o m a n sc i = some w') (hK : aj_J Γ 8 (k1 + 4, k2 + 24) 992 (aj_llv z o m a i) [] w') : aj_J Γ 8 (k1, k2) 587 (aj_llv z o m a i) [] w := by
  unfold f_L_case6 at hm
  refine j_wide (k1 + 0, k2 + 0) (Nat.le_refl _) (Nat.le_refl _) ?_
  refine j_aload_n G d_L_law_587 rfl ?_
  refine j_aload_n G d_L_law_588 rfl ?_
  refine j_iload G d_L_law_589 rfl ?_
  refine j_iconst (v := 1) G d_L_law_591 (by decide) ?_
  refine j_iadd G d_L_law_592 ?_
  obtain ⟨v1, hv1, hm⟩ := Option.bind_eq_some_iff.mp hm
  refine j_scld G S d_L_law_593 hv1 ?_
  obtain ⟨v2, hv2, hm⟩ := Option.bind_eq_some_iff.mp hm
  refine j_callSh (As := [aRf o, aI v1]) G d_L_law_594 (ch_L_lose _ G.off _ _ _ _ _ _ _ hv2) mh_L_lose mhs_L_lose wd_3_99 rfl rfl (Nat.le_of_ble_eq_true rfl) ⟨by decide, by decide⟩ ⟨by dsimp only [rm_L_law, rm_L_lose]; omega, by dsimp only [rm_L_law, rm_L_lose]; omega⟩ (fun v9 w9 hp => ?_)
  obtain ⟨rfl, rfl⟩ := hp
  refine j_istore G d_L_law_597 (by decide) ?_
  refine j_aload_n G d_L_law_599 rfl ?_
  refine j_aload_n G d_L_law_600 rfl ?_
  refine j_iload G d_L_law_601 rfl ?_
  refine j_iconst (v := 1) G d_L_law_603 (by decide) ?_
  refine j_iadd G d_L_law_604 ?_
  obtain ⟨v3, hv3, hm⟩ := Option.bind_eq_some_iff.mp hm
  refine j_scld G S d_L_law_605 hv3 ?_
  obtain ⟨v4, hv4, hm⟩ := Option.bind_eq_some_iff.mp hm
  obtain ⟨v5, hv5, hm⟩ := Option.bind_eq_some_iff.mp hm
  refine j_callV (As := [aI v3]) G d_L_law_606 (c_M_lose _ G.off _ _ _ _ _ _ _ hv5) mw_M_lose mi_M_lose lk_L_97 rfl hv4 rfl rfl (Nat.le_of_ble_eq_true rfl) ⟨by decide, by decide⟩ ⟨by dsimp only [rm_L_law, rm_L_lose, rm_M_lose]; omega, by dsimp only [rm_L_law, rm_L_lose, rm_M_lose]; omega⟩ (fun v9 w9 hp => ?_)
  obtain ⟨rfl, rfl⟩ := hp
  refine j_aload_n G d_L_law_609 rfl ?_
  obtain ⟨v6, hv6, hm⟩ := Option.bind_eq_some_iff.mp hm
  obtain ⟨v7, hv7, hm⟩ := Option.bind_eq_some_iff.mp hm
  refine j_callV (As := []) G d_L_law_610 (c_M_thrown _ G.off _ _ _ _ _ _ hv7) mw_M_thrown mi_M_thrown lk_L_72 rfl hv6 rfl rfl (Nat.le_of_ble_eq_true rfl) ⟨by decide, by decide⟩ ⟨by dsimp only [rm_L_law, rm_L_lose, rm_M_lose, rm_M_thrown]; omega, by dsimp only [rm_L_law, rm_L_lose, rm_M_lose, rm_M_thrown]; omega⟩ (fun v9 w9 hp => ?_)
  obtain ⟨rfl, rfl⟩ := hp
  refine j_iload G d_L_law_613 rfl ?_
  refine j_icmp_eq (tgt := 620) G d_L_law_615 rfl (fun hc => ?_) (fun hc => ?_)
  · rw [if_pos hc] at hm
    refine j_goto (tgt := 992) G d_L_law_620 rfl ?_
    obtain rfl := Option.some.inj hm
    refine j_lv (aj_llv z o m a i) rfl ?_
    refine j_wide (k1 + 4, k2 + 24) (by dsimp only [rm_L_lose, rm_M_lose, rm_M_thrown]; omega) (by dsimp only [rm_L_lose, rm_M_lose, rm_M_thrown]; omega) ?_
    exact hK
  · rw [if_neg hc] at hm
    refine j_iconst (v := 0) G d_L_law_618 (by decide) ?_
    cases hm
noncomputable def f_L_case7 (w : aw_W) (o m a : Option Nat) (n : Nat) (sc : Nat → Int32) (i : Int32) : Option aw_W :=
  (aw_scr n sc (i + (1 : Int32))).bind fun v1 =>
  (if v1 = 0 then
      some (0 : Int32)
    else
      some (1 : Int32) : Option (Int32)).bind fun j2 =>
  (aw_obj w o 0).bind fun v3 =>
  (f_A_open w o j2).bind fun v4 =>
  (aw_scr n sc (i + (1 : Int32))).bind fun v5 =>
  (if v5 = 0 then
      some (0 : Int32)
    else
      some (1 : Int32) : Option (Int32)).bind fun j6 =>
  (aw_obj v4.2 m 7).bind fun v7 =>
  (f_M_open v4.2 m j6).bind fun v8 =>
  if v4.1 = v8.1 then
    some v8.2
  else
    none
set_option maxRecDepth 100000 in
set_option maxHeartbeats 4000000 in
theorem jc_7 {Γ : aj_G} {k1 k2 z n : Nat} {o m a : Option Nat} {sc : Nat → Int32} {i : Int32} {w w' : aw_W} (G : aj_ok Γ y_L_law b_L_law 8 (some .boolean) rm_L_law) (S : aj_sc Γ z n sc) (hk1 : k1 + 4 ≤ 601024) (hk2 : k2 + 24 ≤ 7293034) (hm : f_L_case7 w o m a n sc i = some w') (hK : aj_J Γ 8 (k1 + 4, k2 + 24) 992 (aj_llv z o m a i) [] w') : aj_J Γ 8 (k1, k2) 623 (aj_llv z o m a i) [] w := by
  unfold f_L_case7 at hm
  refine j_wide (k1 + 0, k2 + 0) (Nat.le_refl _) (Nat.le_refl _) ?_
  refine j_aload_n G d_L_law_623 rfl ?_
  refine j_aload_n G d_L_law_624 rfl ?_
  refine j_iload G d_L_law_625 rfl ?_
  refine j_iconst (v := 1) G d_L_law_627 (by decide) ?_
  refine j_iadd G d_L_law_628 ?_
  obtain ⟨v1, hv1, hm⟩ := Option.bind_eq_some_iff.mp hm
  refine j_scld G S d_L_law_629 hv1 ?_
  obtain ⟨j2, hj2, ho2⟩ := Option.bind_eq_some_iff.mp hm
  clear hm
  have hJ2 : aj_J Γ 8 (k1 + 0, k2 + 0) 638 [(0, aRf (some z)), (1, aRf o), (2, aRf m), (3, aRf a), (4, aI i)] [aI j2, aRf o] w := by
    clear hj2
    have hm := ho2
    clear ho2
    obtain ⟨v3, hv3, hm⟩ := Option.bind_eq_some_iff.mp hm
    obtain ⟨v4, hv4, hm⟩ := Option.bind_eq_some_iff.mp hm
    refine j_callV (As := [aI j2]) G d_L_law_638 (c_A_open _ G.off _ _ _ _ _ _ _ hv4) mw_A_open mi_A_open lk_L_98 rfl hv3 rfl rfl (Nat.le_of_ble_eq_true rfl) ⟨by decide, by decide⟩ ⟨by dsimp only [rm_A_open, rm_L_law]; omega, by dsimp only [rm_A_open, rm_L_law]; omega⟩ (fun v9 w9 hp => ?_)
    obtain ⟨rfl, rfl⟩ := hp
    refine j_aload_n G d_L_law_641 rfl ?_
    refine j_aload_n G d_L_law_642 rfl ?_
    refine j_iload G d_L_law_643 rfl ?_
    refine j_iconst (v := 1) G d_L_law_645 (by decide) ?_
    refine j_iadd G d_L_law_646 ?_
    obtain ⟨v5, hv5, hm⟩ := Option.bind_eq_some_iff.mp hm
    refine j_scld G S d_L_law_647 hv5 ?_
    obtain ⟨j6, hj6, ho6⟩ := Option.bind_eq_some_iff.mp hm
    clear hm
    have hJ6 : aj_J Γ 8 (k1 + 0, k2 + 0) 656 [(0, aRf (some z)), (1, aRf o), (2, aRf m), (3, aRf a), (4, aI i)] [aI j6, aRf m, aI v4.1] v4.2 := by
      clear hj6
      have hm := ho6
      clear ho6
      obtain ⟨v7, hv7, hm⟩ := Option.bind_eq_some_iff.mp hm
      obtain ⟨v8, hv8, hm⟩ := Option.bind_eq_some_iff.mp hm
      refine j_callV (As := [aI j6]) G d_L_law_656 (c_M_open _ G.off _ _ _ _ _ _ _ hv8) mw_M_open mi_M_open lk_L_102 rfl hv7 rfl rfl (Nat.le_of_ble_eq_true rfl) ⟨by decide, by decide⟩ ⟨by dsimp only [rm_A_open, rm_L_law, rm_M_open]; omega, by dsimp only [rm_A_open, rm_L_law, rm_M_open]; omega⟩ (fun v9 w9 hp => ?_)
      obtain ⟨rfl, rfl⟩ := hp
      refine j_icmp_eq (tgt := 992) G d_L_law_659 rfl (fun hc => ?_) (fun hc => ?_)
      · rw [if_pos hc] at hm
        obtain rfl := Option.some.inj hm
        refine j_lv (aj_llv z o m a i) rfl ?_
        refine j_wide (k1 + 4, k2 + 24) (by dsimp only [rm_A_open, rm_M_open]; omega) (by dsimp only [rm_A_open, rm_M_open]; omega) ?_
        exact hK
      · rw [if_neg hc] at hm
        refine j_iconst (v := 0) G d_L_law_662 (by decide) ?_
        cases hm
    clear ho6
    have hm := hj6
    clear hj6
    refine j_if_eq (tgt := 655) G d_L_law_648 rfl (fun hc => ?_) (fun hc => ?_)
    · rw [if_pos hc] at hm
      refine j_iconst (v := 0) G d_L_law_655 (by decide) ?_
      obtain rfl := Option.some.inj hm
      refine j_lv [(0, aRf (some z)), (1, aRf o), (2, aRf m), (3, aRf a), (4, aI i)] rfl ?_
      exact hJ6
    · rw [if_neg hc] at hm
      refine j_iconst (v := 1) G d_L_law_651 (by decide) ?_
      refine j_goto (tgt := 656) G d_L_law_652 rfl ?_
      obtain rfl := Option.some.inj hm
      refine j_lv [(0, aRf (some z)), (1, aRf o), (2, aRf m), (3, aRf a), (4, aI i)] rfl ?_
      exact hJ6
  clear ho2
  have hm := hj2
  clear hj2
  refine j_if_eq (tgt := 637) G d_L_law_630 rfl (fun hc => ?_) (fun hc => ?_)
  · rw [if_pos hc] at hm
    refine j_iconst (v := 0) G d_L_law_637 (by decide) ?_
    obtain rfl := Option.some.inj hm
    refine j_lv [(0, aRf (some z)), (1, aRf o), (2, aRf m), (3, aRf a), (4, aI i)] rfl ?_
    exact hJ2
  · rw [if_neg hc] at hm
    refine j_iconst (v := 1) G d_L_law_633 (by decide) ?_
    refine j_goto (tgt := 638) G d_L_law_634 rfl ?_
    obtain rfl := Option.some.inj hm
    refine j_lv [(0, aRf (some z)), (1, aRf o), (2, aRf m), (3, aRf a), (4, aI i)] rfl ?_
    exact hJ2
noncomputable def f_L_case8 (w : aw_W) (o m a : Option Nat) (n : Nat) (sc : Nat → Int32) (i : Int32) : Option aw_W :=
  (aw_scr n sc (i + (1 : Int32))).bind fun v1 =>
  (f_L_merge w o v1 a).bind fun v2 =>
  (aw_scr n sc (i + (1 : Int32))).bind fun v3 =>
  (aw_obj v2.2 m 7).bind fun v4 =>
  (f_M_merge v2.2 m v3).bind fun v5 =>
  (aw_obj v5.2 m 7).bind fun v6 =>
  (f_M_thrown v5.2 m).bind fun v7 =>
  if v7 = v2.1 then
    if v2.1 = 0 then
      (aw_aL v5.2 a 2 (0 : Int32)).bind fun v8 =>
      (if v5.1 = 0 then
          some (0 : Int64)
        else
          some (1 : Int64) : Option (Int64)).bind fun j9 =>
      if (lg_cmp v8 j9) = 0 then
        some v5.2
      else
        none
    else
      some v5.2
  else
    none
set_option maxRecDepth 100000 in
set_option maxHeartbeats 4000000 in
theorem jc_8 {Γ : aj_G} {k1 k2 z n : Nat} {o m a : Option Nat} {sc : Nat → Int32} {i : Int32} {w w' : aw_W} (G : aj_ok Γ y_L_law b_L_law 8 (some .boolean) rm_L_law) (S : aj_sc Γ z n sc) (hk1 : k1 + 4 ≤ 601024) (hk2 : k2 + 24 ≤ 7293034) (hm : f_L_case8 w o m a n sc i = some w') (hK : aj_J Γ 8 (k1 + 4, k2 + 24) 992 (aj_llv z o m a i) [] w') : aj_J Γ 8 (k1, k2) 664 (aj_llv z o m a i) [] w := by
  unfold f_L_case8 at hm
  refine j_wide (k1 + 0, k2 + 0) (Nat.le_refl _) (Nat.le_refl _) ?_
  refine j_aload_n G d_L_law_664 rfl ?_
  refine j_aload_n G d_L_law_665 rfl ?_
  refine j_iload G d_L_law_666 rfl ?_
  refine j_iconst (v := 1) G d_L_law_668 (by decide) ?_
  refine j_iadd G d_L_law_669 ?_
  obtain ⟨v1, hv1, hm⟩ := Option.bind_eq_some_iff.mp hm
  refine j_scld G S d_L_law_670 hv1 ?_
  refine j_aload_n G d_L_law_671 rfl ?_
  obtain ⟨v2, hv2, hm⟩ := Option.bind_eq_some_iff.mp hm
  refine j_callSh (As := [aRf o, aI v1, aRf a]) G d_L_law_672 (ch_L_merge _ G.off _ _ _ _ _ _ _ _ hv2) mh_L_merge mhs_L_merge wd_3_114 rfl rfl (Nat.le_of_ble_eq_true rfl) ⟨by decide, by decide⟩ ⟨by dsimp only [rm_L_law, rm_L_merge]; omega, by dsimp only [rm_L_law, rm_L_merge]; omega⟩ (fun v9 w9 hp => ?_)
  obtain ⟨rfl, rfl⟩ := hp
  refine j_istore G d_L_law_675 (by decide) ?_
  refine j_aload_n G d_L_law_677 rfl ?_
  refine j_aload_n G d_L_law_678 rfl ?_
  refine j_iload G d_L_law_679 rfl ?_
  refine j_iconst (v := 1) G d_L_law_681 (by decide) ?_
  refine j_iadd G d_L_law_682 ?_
  obtain ⟨v3, hv3, hm⟩ := Option.bind_eq_some_iff.mp hm
  refine j_scld G S d_L_law_683 hv3 ?_
  obtain ⟨v4, hv4, hm⟩ := Option.bind_eq_some_iff.mp hm
  obtain ⟨v5, hv5, hm⟩ := Option.bind_eq_some_iff.mp hm
  refine j_callV (As := [aI v3]) G d_L_law_684 (c_M_merge _ G.off _ _ _ _ _ _ _ hv5) mw_M_merge mi_M_merge lk_L_106 rfl hv4 rfl rfl (Nat.le_of_ble_eq_true rfl) ⟨by decide, by decide⟩ ⟨by dsimp only [rm_L_law, rm_L_merge, rm_M_merge]; omega, by dsimp only [rm_L_law, rm_L_merge, rm_M_merge]; omega⟩ (fun v9 w9 hp => ?_)
  obtain ⟨rfl, rfl⟩ := hp
  refine j_istore G d_L_law_687 (by decide) ?_
  refine j_aload_n G d_L_law_689 rfl ?_
  obtain ⟨v6, hv6, hm⟩ := Option.bind_eq_some_iff.mp hm
  obtain ⟨v7, hv7, hm⟩ := Option.bind_eq_some_iff.mp hm
  refine j_callV (As := []) G d_L_law_690 (c_M_thrown _ G.off _ _ _ _ _ _ hv7) mw_M_thrown mi_M_thrown lk_L_72 rfl hv6 rfl rfl (Nat.le_of_ble_eq_true rfl) ⟨by decide, by decide⟩ ⟨by dsimp only [rm_L_law, rm_L_merge, rm_M_merge, rm_M_thrown]; omega, by dsimp only [rm_L_law, rm_L_merge, rm_M_merge, rm_M_thrown]; omega⟩ (fun v9 w9 hp => ?_)
  obtain ⟨rfl, rfl⟩ := hp
  refine j_iload G d_L_law_693 rfl ?_
  refine j_icmp_eq (tgt := 700) G d_L_law_695 rfl (fun hc => ?_) (fun hc => ?_)
  · rw [if_pos hc] at hm
    refine j_iload G d_L_law_700 rfl ?_
    refine j_if_ne (tgt := 724) G d_L_law_702 rfl (fun hc => ?_) (fun hc => ?_)
    · rw [if_neg hc] at hm
      refine j_goto (tgt := 992) G d_L_law_724 rfl ?_
      obtain rfl := Option.some.inj hm
      refine j_lv (aj_llv z o m a i) rfl ?_
      refine j_wide (k1 + 4, k2 + 24) (by dsimp only [rm_L_merge, rm_M_merge, rm_M_thrown]; omega) (by dsimp only [rm_L_merge, rm_M_merge, rm_M_thrown]; omega) ?_
      exact hK
    · rw [if_pos hc] at hm
      refine j_aload_n G d_L_law_705 rfl ?_
      refine j_iconst (v := 0) G d_L_law_706 (by decide) ?_
      obtain ⟨v8, hv8, hm⟩ := Option.bind_eq_some_iff.mp hm
      refine j_lald G d_L_law_707 hv8 ?_
      refine j_iload G d_L_law_708 rfl ?_
      obtain ⟨j9, hj9, ho9⟩ := Option.bind_eq_some_iff.mp hm
      clear hm
      have hJ9 : aj_J Γ 8 (k1 + 3, k2 + 18) 718 [(0, aRf (some z)), (1, aRf o), (2, aRf m), (3, aRf a), (4, aI i)] [aL j9, aL v8] v5.2 := by
        clear hj9
        have hm := ho9
        clear ho9
        refine j_lcmp G d_L_law_718 ?_
        refine j_if_eq (tgt := 724) G d_L_law_719 rfl (fun hc => ?_) (fun hc => ?_)
        · rw [if_pos hc] at hm
          refine j_goto (tgt := 992) G d_L_law_724 rfl ?_
          obtain rfl := Option.some.inj hm
          refine j_lv (aj_llv z o m a i) rfl ?_
          refine j_wide (k1 + 4, k2 + 24) (by dsimp only [rm_L_merge, rm_M_merge, rm_M_thrown]; omega) (by dsimp only [rm_L_merge, rm_M_merge, rm_M_thrown]; omega) ?_
          exact hK
        · rw [if_neg hc] at hm
          refine j_iconst (v := 0) G d_L_law_722 (by decide) ?_
          cases hm
      clear ho9
      have hm := hj9
      clear hj9
      refine j_if_eq (tgt := 717) G d_L_law_710 rfl (fun hc => ?_) (fun hc => ?_)
      · rw [if_pos hc] at hm
        refine j_lconst (v := 0) G d_L_law_717 (by decide) ?_
        obtain rfl := Option.some.inj hm
        refine j_lv [(0, aRf (some z)), (1, aRf o), (2, aRf m), (3, aRf a), (4, aI i)] rfl ?_
        exact hJ9
      · rw [if_neg hc] at hm
        refine j_lconst (v := 1) G d_L_law_713 (by decide) ?_
        refine j_goto (tgt := 718) G d_L_law_714 rfl ?_
        obtain rfl := Option.some.inj hm
        refine j_lv [(0, aRf (some z)), (1, aRf o), (2, aRf m), (3, aRf a), (4, aI i)] rfl ?_
        exact hJ9
  · rw [if_neg hc] at hm
    refine j_iconst (v := 0) G d_L_law_698 (by decide) ?_
    cases hm
noncomputable def f_L_case9 (w : aw_W) (o m a : Option Nat) (n : Nat) (sc : Nat → Int32) (i : Int32) : Option aw_W :=
  (aw_obj w o 0).bind fun v1 =>
  (f_A_files w o).bind fun v2 =>
  (aw_obj w m 7).bind fun v3 =>
  (f_M_files w m).bind fun v4 =>
  if v2 = v4.1 then
    some v4.2
  else
    none
set_option maxRecDepth 100000 in
set_option maxHeartbeats 4000000 in
theorem jc_9 {Γ : aj_G} {k1 k2 z n : Nat} {o m a : Option Nat} {sc : Nat → Int32} {i : Int32} {w w' : aw_W} (G : aj_ok Γ y_L_law b_L_law 8 (some .boolean) rm_L_law) (S : aj_sc Γ z n sc) (hk1 : k1 + 4 ≤ 601024) (hk2 : k2 + 24 ≤ 7293034) (hm : f_L_case9 w o m a n sc i = some w') (hK : aj_J Γ 8 (k1 + 4, k2 + 24) 992 (aj_llv z o m a i) [] w') : aj_J Γ 8 (k1, k2) 727 (aj_llv z o m a i) [] w := by
  unfold f_L_case9 at hm
  refine j_wide (k1 + 0, k2 + 0) (Nat.le_refl _) (Nat.le_refl _) ?_
  refine j_aload_n G d_L_law_727 rfl ?_
  obtain ⟨v1, hv1, hm⟩ := Option.bind_eq_some_iff.mp hm
  obtain ⟨v2, hv2, hm⟩ := Option.bind_eq_some_iff.mp hm
  refine j_callV (As := []) G d_L_law_728 (c_A_files _ G.off _ _ _ _ _ _ hv2) mw_A_files mi_A_files lk_L_107 rfl hv1 rfl rfl (Nat.le_of_ble_eq_true rfl) ⟨by decide, by decide⟩ ⟨by dsimp only [rm_A_files, rm_L_law]; omega, by dsimp only [rm_A_files, rm_L_law]; omega⟩ (fun v9 w9 hp => ?_)
  obtain ⟨rfl, rfl⟩ := hp
  refine j_aload_n G d_L_law_731 rfl ?_
  obtain ⟨v3, hv3, hm⟩ := Option.bind_eq_some_iff.mp hm
  obtain ⟨v4, hv4, hm⟩ := Option.bind_eq_some_iff.mp hm
  refine j_callV (As := []) G d_L_law_732 (c_M_files _ G.off _ _ _ _ _ _ hv4) mw_M_files mi_M_files lk_L_110 rfl hv3 rfl rfl (Nat.le_of_ble_eq_true rfl) ⟨by decide, by decide⟩ ⟨by dsimp only [rm_A_files, rm_L_law, rm_M_files]; omega, by dsimp only [rm_A_files, rm_L_law, rm_M_files]; omega⟩ (fun v9 w9 hp => ?_)
  obtain ⟨rfl, rfl⟩ := hp
  refine j_icmp_eq (tgt := 992) G d_L_law_735 rfl (fun hc => ?_) (fun hc => ?_)
  · rw [if_pos hc] at hm
    obtain rfl := Option.some.inj hm
    refine j_lv (aj_llv z o m a i) rfl ?_
    refine j_wide (k1 + 4, k2 + 24) (by dsimp only [rm_A_files, rm_M_files]; omega) (by dsimp only [rm_A_files, rm_M_files]; omega) ?_
    exact hK
  · rw [if_neg hc] at hm
    refine j_iconst (v := 0) G d_L_law_738 (by decide) ?_
    cases hm
noncomputable def f_L_case10 (w : aw_W) (o m a : Option Nat) (n : Nat) (sc : Nat → Int32) (i : Int32) : Option aw_W :=
  (aw_scr n sc (i + (1 : Int32))).bind fun v1 =>
  (aw_scr n sc (i + (2 : Int32))).bind fun v2 =>
  (f_L_file w o v1 v2 a).bind fun v3 =>
  (aw_scr n sc (i + (1 : Int32))).bind fun v4 =>
  (aw_scr n sc (i + (2 : Int32))).bind fun v5 =>
  (aw_obj v3.2 m 7).bind fun v6 =>
  (f_M_file v3.2 m v4 v5).bind fun v7 =>
  (aw_obj v7.2 m 7).bind fun v8 =>
  (f_M_thrown v7.2 m).bind fun v9 =>
  if v9 = v3.1 then
    if v3.1 = 0 then
      (aw_aL v7.2 a 2 (0 : Int32)).bind fun v10 =>
      if (lg_cmp v10 v7.1.toInt64) = 0 then
        some v7.2
      else
        none
    else
      some v7.2
  else
    none
set_option maxRecDepth 100000 in
set_option maxHeartbeats 4000000 in
theorem jc_10 {Γ : aj_G} {k1 k2 z n : Nat} {o m a : Option Nat} {sc : Nat → Int32} {i : Int32} {w w' : aw_W} (G : aj_ok Γ y_L_law b_L_law 8 (some .boolean) rm_L_law) (S : aj_sc Γ z n sc) (hk1 : k1 + 4 ≤ 601024) (hk2 : k2 + 24 ≤ 7293034) (hm : f_L_case10 w o m a n sc i = some w') (hK : aj_J Γ 8 (k1 + 4, k2 + 24) 992 (aj_llv z o m a i) [] w') : aj_J Γ 8 (k1, k2) 740 (aj_llv z o m a i) [] w := by
  unfold f_L_case10 at hm
  refine j_wide (k1 + 0, k2 + 0) (Nat.le_refl _) (Nat.le_refl _) ?_
  refine j_aload_n G d_L_law_740 rfl ?_
  refine j_aload_n G d_L_law_741 rfl ?_
  refine j_iload G d_L_law_742 rfl ?_
  refine j_iconst (v := 1) G d_L_law_744 (by decide) ?_
  refine j_iadd G d_L_law_745 ?_
  obtain ⟨v1, hv1, hm⟩ := Option.bind_eq_some_iff.mp hm
  refine j_scld G S d_L_law_746 hv1 ?_
  refine j_aload_n G d_L_law_747 rfl ?_
  refine j_iload G d_L_law_748 rfl ?_
  refine j_iconst (v := 2) G d_L_law_750 (by decide) ?_
  refine j_iadd G d_L_law_751 ?_
  obtain ⟨v2, hv2, hm⟩ := Option.bind_eq_some_iff.mp hm
  refine j_scld G S d_L_law_752 hv2 ?_
  refine j_aload_n G d_L_law_753 rfl ?_
  obtain ⟨v3, hv3, hm⟩ := Option.bind_eq_some_iff.mp hm
  refine j_callSh (As := [aRf o, aI v1, aI v2, aRf a]) G d_L_law_754 (ch_L_file _ G.off _ _ _ _ _ _ _ _ _ hv3) mh_L_file mhs_L_file wd_3_200 rfl rfl (Nat.le_of_ble_eq_true rfl) ⟨by decide, by decide⟩ ⟨by dsimp only [rm_L_file, rm_L_law]; omega, by dsimp only [rm_L_file, rm_L_law]; omega⟩ (fun v9 w9 hp => ?_)
  obtain ⟨rfl, rfl⟩ := hp
  refine j_istore G d_L_law_757 (by decide) ?_
  refine j_aload_n G d_L_law_759 rfl ?_
  refine j_aload_n G d_L_law_760 rfl ?_
  refine j_iload G d_L_law_761 rfl ?_
  refine j_iconst (v := 1) G d_L_law_763 (by decide) ?_
  refine j_iadd G d_L_law_764 ?_
  obtain ⟨v4, hv4, hm⟩ := Option.bind_eq_some_iff.mp hm
  refine j_scld G S d_L_law_765 hv4 ?_
  refine j_aload_n G d_L_law_766 rfl ?_
  refine j_iload G d_L_law_767 rfl ?_
  refine j_iconst (v := 2) G d_L_law_769 (by decide) ?_
  refine j_iadd G d_L_law_770 ?_
  obtain ⟨v5, hv5, hm⟩ := Option.bind_eq_some_iff.mp hm
  refine j_scld G S d_L_law_771 hv5 ?_
  obtain ⟨v6, hv6, hm⟩ := Option.bind_eq_some_iff.mp hm
  obtain ⟨v7, hv7, hm⟩ := Option.bind_eq_some_iff.mp hm
  refine j_callV (As := [aI v4, aI v5]) G d_L_law_772 (c_M_file _ G.off _ _ _ _ _ _ _ _ hv7) mw_M_file mi_M_file lk_L_113 rfl hv6 rfl rfl (Nat.le_of_ble_eq_true rfl) ⟨by decide, by decide⟩ ⟨by dsimp only [rm_L_file, rm_L_law, rm_M_file]; omega, by dsimp only [rm_L_file, rm_L_law, rm_M_file]; omega⟩ (fun v9 w9 hp => ?_)
  obtain ⟨rfl, rfl⟩ := hp
  refine j_istore G d_L_law_775 (by decide) ?_
  refine j_aload_n G d_L_law_777 rfl ?_
  obtain ⟨v8, hv8, hm⟩ := Option.bind_eq_some_iff.mp hm
  obtain ⟨v9, hv9, hm⟩ := Option.bind_eq_some_iff.mp hm
  refine j_callV (As := []) G d_L_law_778 (c_M_thrown _ G.off _ _ _ _ _ _ hv9) mw_M_thrown mi_M_thrown lk_L_72 rfl hv8 rfl rfl (Nat.le_of_ble_eq_true rfl) ⟨by decide, by decide⟩ ⟨by dsimp only [rm_L_file, rm_L_law, rm_M_file, rm_M_thrown]; omega, by dsimp only [rm_L_file, rm_L_law, rm_M_file, rm_M_thrown]; omega⟩ (fun v9 w9 hp => ?_)
  obtain ⟨rfl, rfl⟩ := hp
  refine j_iload G d_L_law_781 rfl ?_
  refine j_icmp_eq (tgt := 788) G d_L_law_783 rfl (fun hc => ?_) (fun hc => ?_)
  · rw [if_pos hc] at hm
    refine j_iload G d_L_law_788 rfl ?_
    refine j_if_ne (tgt := 805) G d_L_law_790 rfl (fun hc => ?_) (fun hc => ?_)
    · rw [if_neg hc] at hm
      refine j_goto (tgt := 992) G d_L_law_805 rfl ?_
      obtain rfl := Option.some.inj hm
      refine j_lv (aj_llv z o m a i) rfl ?_
      refine j_wide (k1 + 4, k2 + 24) (by dsimp only [rm_L_file, rm_M_file, rm_M_thrown]; omega) (by dsimp only [rm_L_file, rm_M_file, rm_M_thrown]; omega) ?_
      exact hK
    · rw [if_pos hc] at hm
      refine j_aload_n G d_L_law_793 rfl ?_
      refine j_iconst (v := 0) G d_L_law_794 (by decide) ?_
      obtain ⟨v10, hv10, hm⟩ := Option.bind_eq_some_iff.mp hm
      refine j_lald G d_L_law_795 hv10 ?_
      refine j_iload G d_L_law_796 rfl ?_
      refine j_i2l G d_L_law_798 ?_
      refine j_lcmp G d_L_law_799 ?_
      refine j_if_eq (tgt := 805) G d_L_law_800 rfl (fun hc => ?_) (fun hc => ?_)
      · rw [if_pos hc] at hm
        refine j_goto (tgt := 992) G d_L_law_805 rfl ?_
        obtain rfl := Option.some.inj hm
        refine j_lv (aj_llv z o m a i) rfl ?_
        refine j_wide (k1 + 4, k2 + 24) (by dsimp only [rm_L_file, rm_M_file, rm_M_thrown]; omega) (by dsimp only [rm_L_file, rm_M_file, rm_M_thrown]; omega) ?_
        exact hK
      · rw [if_neg hc] at hm
        refine j_iconst (v := 0) G d_L_law_803 (by decide) ?_
        cases hm
  · rw [if_neg hc] at hm
    refine j_iconst (v := 0) G d_L_law_786 (by decide) ?_
    cases hm
noncomputable def f_L_case11 (w : aw_W) (o m a : Option Nat) (n : Nat) (sc : Nat → Int32) (i : Int32) : Option aw_W :=
  (aw_scr n sc (i + (1 : Int32))).bind fun v1 =>
  (aw_scr n sc (i + (2 : Int32))).bind fun v2 =>
  (aw_scr n sc (i + (3 : Int32))).bind fun v3 =>
  (if v3 = 0 then
      some (0 : Int32)
    else
      some (1 : Int32) : Option (Int32)).bind fun j4 =>
  (f_L_octet w o v1 v2 j4 a).bind fun v5 =>
  (aw_scr n sc (i + (1 : Int32))).bind fun v6 =>
  (aw_scr n sc (i + (2 : Int32))).bind fun v7 =>
  (aw_scr n sc (i + (3 : Int32))).bind fun v8 =>
  (if v8 = 0 then
      some (0 : Int32)
    else
      some (1 : Int32) : Option (Int32)).bind fun j9 =>
  (aw_obj v5.2 m 7).bind fun v10 =>
  (f_M_octet v5.2 m v6 v7 j9).bind fun v11 =>
  (aw_obj v11.2 m 7).bind fun v12 =>
  (f_M_thrown v11.2 m).bind fun v13 =>
  if v13 = v5.1 then
    if v5.1 = 0 then
      (aw_aL v11.2 a 2 (0 : Int32)).bind fun v14 =>
      if (lg_cmp v14 v11.1.toInt64) = 0 then
        some v11.2
      else
        none
    else
      some v11.2
  else
    none
set_option maxRecDepth 100000 in
set_option maxHeartbeats 4000000 in
theorem jc_11 {Γ : aj_G} {k1 k2 z n : Nat} {o m a : Option Nat} {sc : Nat → Int32} {i : Int32} {w w' : aw_W} (G : aj_ok Γ y_L_law b_L_law 8 (some .boolean) rm_L_law) (S : aj_sc Γ z n sc) (hk1 : k1 + 4 ≤ 601024) (hk2 : k2 + 24 ≤ 7293034) (hm : f_L_case11 w o m a n sc i = some w') (hK : aj_J Γ 8 (k1 + 4, k2 + 24) 992 (aj_llv z o m a i) [] w') : aj_J Γ 8 (k1, k2) 808 (aj_llv z o m a i) [] w := by
  unfold f_L_case11 at hm
  refine j_wide (k1 + 0, k2 + 0) (Nat.le_refl _) (Nat.le_refl _) ?_
  refine j_aload_n G d_L_law_808 rfl ?_
  refine j_aload_n G d_L_law_809 rfl ?_
  refine j_iload G d_L_law_810 rfl ?_
  refine j_iconst (v := 1) G d_L_law_812 (by decide) ?_
  refine j_iadd G d_L_law_813 ?_
  obtain ⟨v1, hv1, hm⟩ := Option.bind_eq_some_iff.mp hm
  refine j_scld G S d_L_law_814 hv1 ?_
  refine j_aload_n G d_L_law_815 rfl ?_
  refine j_iload G d_L_law_816 rfl ?_
  refine j_iconst (v := 2) G d_L_law_818 (by decide) ?_
  refine j_iadd G d_L_law_819 ?_
  obtain ⟨v2, hv2, hm⟩ := Option.bind_eq_some_iff.mp hm
  refine j_scld G S d_L_law_820 hv2 ?_
  refine j_aload_n G d_L_law_821 rfl ?_
  refine j_iload G d_L_law_822 rfl ?_
  refine j_iconst (v := 3) G d_L_law_824 (by decide) ?_
  refine j_iadd G d_L_law_825 ?_
  obtain ⟨v3, hv3, hm⟩ := Option.bind_eq_some_iff.mp hm
  refine j_scld G S d_L_law_826 hv3 ?_
  obtain ⟨j4, hj4, ho4⟩ := Option.bind_eq_some_iff.mp hm
  clear hm
  have hJ4 : aj_J Γ 8 (k1 + 0, k2 + 0) 835 [(0, aRf (some z)), (1, aRf o), (2, aRf m), (3, aRf a), (4, aI i)] [aI j4, aI v2, aI v1, aRf o] w := by
    clear hj4
    have hm := ho4
    clear ho4
    refine j_aload_n G d_L_law_835 rfl ?_
    obtain ⟨v5, hv5, hm⟩ := Option.bind_eq_some_iff.mp hm
    refine j_callSh (As := [aRf o, aI v1, aI v2, aI j4, aRf a]) G d_L_law_836 (ch_L_octet _ G.off _ _ _ _ _ _ _ _ _ _ hv5) mh_L_octet mhs_L_octet wd_3_225 rfl rfl (Nat.le_of_ble_eq_true rfl) ⟨by decide, by decide⟩ ⟨by dsimp only [rm_L_law, rm_L_octet]; omega, by dsimp only [rm_L_law, rm_L_octet]; omega⟩ (fun v9 w9 hp => ?_)
    obtain ⟨rfl, rfl⟩ := hp
    refine j_istore G d_L_law_839 (by decide) ?_
    refine j_aload_n G d_L_law_841 rfl ?_
    refine j_aload_n G d_L_law_842 rfl ?_
    refine j_iload G d_L_law_843 rfl ?_
    refine j_iconst (v := 1) G d_L_law_845 (by decide) ?_
    refine j_iadd G d_L_law_846 ?_
    obtain ⟨v6, hv6, hm⟩ := Option.bind_eq_some_iff.mp hm
    refine j_scld G S d_L_law_847 hv6 ?_
    refine j_aload_n G d_L_law_848 rfl ?_
    refine j_iload G d_L_law_849 rfl ?_
    refine j_iconst (v := 2) G d_L_law_851 (by decide) ?_
    refine j_iadd G d_L_law_852 ?_
    obtain ⟨v7, hv7, hm⟩ := Option.bind_eq_some_iff.mp hm
    refine j_scld G S d_L_law_853 hv7 ?_
    refine j_aload_n G d_L_law_854 rfl ?_
    refine j_iload G d_L_law_855 rfl ?_
    refine j_iconst (v := 3) G d_L_law_857 (by decide) ?_
    refine j_iadd G d_L_law_858 ?_
    obtain ⟨v8, hv8, hm⟩ := Option.bind_eq_some_iff.mp hm
    refine j_scld G S d_L_law_859 hv8 ?_
    obtain ⟨j9, hj9, ho9⟩ := Option.bind_eq_some_iff.mp hm
    clear hm
    have hJ9 : aj_J Γ 8 (k1 + 1, k2 + 6) 868 [(0, aRf (some z)), (1, aRf o), (2, aRf m), (3, aRf a), (4, aI i), (5, aI v5.1)] [aI j9, aI v7, aI v6, aRf m] v5.2 := by
      clear hj9
      have hm := ho9
      clear ho9
      obtain ⟨v10, hv10, hm⟩ := Option.bind_eq_some_iff.mp hm
      obtain ⟨v11, hv11, hm⟩ := Option.bind_eq_some_iff.mp hm
      refine j_callV (As := [aI v6, aI v7, aI j9]) G d_L_law_868 (c_M_octet _ G.off _ _ _ _ _ _ _ _ _ hv11) mw_M_octet mi_M_octet lk_L_117 rfl hv10 rfl rfl (Nat.le_of_ble_eq_true rfl) ⟨by decide, by decide⟩ ⟨by dsimp only [rm_L_law, rm_L_octet, rm_M_octet]; omega, by dsimp only [rm_L_law, rm_L_octet, rm_M_octet]; omega⟩ (fun v9 w9 hp => ?_)
      obtain ⟨rfl, rfl⟩ := hp
      refine j_istore G d_L_law_871 (by decide) ?_
      refine j_aload_n G d_L_law_873 rfl ?_
      obtain ⟨v12, hv12, hm⟩ := Option.bind_eq_some_iff.mp hm
      obtain ⟨v13, hv13, hm⟩ := Option.bind_eq_some_iff.mp hm
      refine j_callV (As := []) G d_L_law_874 (c_M_thrown _ G.off _ _ _ _ _ _ hv13) mw_M_thrown mi_M_thrown lk_L_72 rfl hv12 rfl rfl (Nat.le_of_ble_eq_true rfl) ⟨by decide, by decide⟩ ⟨by dsimp only [rm_L_law, rm_L_octet, rm_M_octet, rm_M_thrown]; omega, by dsimp only [rm_L_law, rm_L_octet, rm_M_octet, rm_M_thrown]; omega⟩ (fun v9 w9 hp => ?_)
      obtain ⟨rfl, rfl⟩ := hp
      refine j_iload G d_L_law_877 rfl ?_
      refine j_icmp_eq (tgt := 884) G d_L_law_879 rfl (fun hc => ?_) (fun hc => ?_)
      · rw [if_pos hc] at hm
        refine j_iload G d_L_law_884 rfl ?_
        refine j_if_ne (tgt := 901) G d_L_law_886 rfl (fun hc => ?_) (fun hc => ?_)
        · rw [if_neg hc] at hm
          refine j_goto (tgt := 992) G d_L_law_901 rfl ?_
          obtain rfl := Option.some.inj hm
          refine j_lv (aj_llv z o m a i) rfl ?_
          refine j_wide (k1 + 4, k2 + 24) (by dsimp only [rm_L_octet, rm_M_octet, rm_M_thrown]; omega) (by dsimp only [rm_L_octet, rm_M_octet, rm_M_thrown]; omega) ?_
          exact hK
        · rw [if_pos hc] at hm
          refine j_aload_n G d_L_law_889 rfl ?_
          refine j_iconst (v := 0) G d_L_law_890 (by decide) ?_
          obtain ⟨v14, hv14, hm⟩ := Option.bind_eq_some_iff.mp hm
          refine j_lald G d_L_law_891 hv14 ?_
          refine j_iload G d_L_law_892 rfl ?_
          refine j_i2l G d_L_law_894 ?_
          refine j_lcmp G d_L_law_895 ?_
          refine j_if_eq (tgt := 901) G d_L_law_896 rfl (fun hc => ?_) (fun hc => ?_)
          · rw [if_pos hc] at hm
            refine j_goto (tgt := 992) G d_L_law_901 rfl ?_
            obtain rfl := Option.some.inj hm
            refine j_lv (aj_llv z o m a i) rfl ?_
            refine j_wide (k1 + 4, k2 + 24) (by dsimp only [rm_L_octet, rm_M_octet, rm_M_thrown]; omega) (by dsimp only [rm_L_octet, rm_M_octet, rm_M_thrown]; omega) ?_
            exact hK
          · rw [if_neg hc] at hm
            refine j_iconst (v := 0) G d_L_law_899 (by decide) ?_
            cases hm
      · rw [if_neg hc] at hm
        refine j_iconst (v := 0) G d_L_law_882 (by decide) ?_
        cases hm
    clear ho9
    have hm := hj9
    clear hj9
    refine j_if_eq (tgt := 867) G d_L_law_860 rfl (fun hc => ?_) (fun hc => ?_)
    · rw [if_pos hc] at hm
      refine j_iconst (v := 0) G d_L_law_867 (by decide) ?_
      obtain rfl := Option.some.inj hm
      refine j_lv [(0, aRf (some z)), (1, aRf o), (2, aRf m), (3, aRf a), (4, aI i), (5, aI v5.1)] rfl ?_
      exact hJ9
    · rw [if_neg hc] at hm
      refine j_iconst (v := 1) G d_L_law_863 (by decide) ?_
      refine j_goto (tgt := 868) G d_L_law_864 rfl ?_
      obtain rfl := Option.some.inj hm
      refine j_lv [(0, aRf (some z)), (1, aRf o), (2, aRf m), (3, aRf a), (4, aI i), (5, aI v5.1)] rfl ?_
      exact hJ9
  clear ho4
  have hm := hj4
  clear hj4
  refine j_if_eq (tgt := 834) G d_L_law_827 rfl (fun hc => ?_) (fun hc => ?_)
  · rw [if_pos hc] at hm
    refine j_iconst (v := 0) G d_L_law_834 (by decide) ?_
    obtain rfl := Option.some.inj hm
    refine j_lv [(0, aRf (some z)), (1, aRf o), (2, aRf m), (3, aRf a), (4, aI i)] rfl ?_
    exact hJ4
  · rw [if_neg hc] at hm
    refine j_iconst (v := 1) G d_L_law_830 (by decide) ?_
    refine j_goto (tgt := 835) G d_L_law_831 rfl ?_
    obtain rfl := Option.some.inj hm
    refine j_lv [(0, aRf (some z)), (1, aRf o), (2, aRf m), (3, aRf a), (4, aI i)] rfl ?_
    exact hJ4
noncomputable def f_L_case12 (w : aw_W) (o m a : Option Nat) (n : Nat) (sc : Nat → Int32) (i : Int32) : Option aw_W :=
  (aw_scr n sc (i + (1 : Int32))).bind fun v1 =>
  (aw_scr n sc (i + (2 : Int32))).bind fun v2 =>
  (aw_scr n sc (i + (3 : Int32))).bind fun v3 =>
  (if v3 = 0 then
      some (0 : Int32)
    else
      some (1 : Int32) : Option (Int32)).bind fun j4 =>
  (aw_scr n sc (i + (4 : Int32))).bind fun v5 =>
  (f_L_spoil w o v1 v2 j4 v5).bind fun v6 =>
  (aw_scr n sc (i + (1 : Int32))).bind fun v7 =>
  (aw_scr n sc (i + (2 : Int32))).bind fun v8 =>
  (aw_scr n sc (i + (3 : Int32))).bind fun v9 =>
  (if v9 = 0 then
      some (0 : Int32)
    else
      some (1 : Int32) : Option (Int32)).bind fun j10 =>
  (aw_scr n sc (i + (4 : Int32))).bind fun v11 =>
  (aw_obj v6.2 m 7).bind fun v12 =>
  (f_M_spoil v6.2 m v7 v8 j10 v11).bind fun v13 =>
  (aw_obj v13 m 7).bind fun v14 =>
  (f_M_thrown v13 m).bind fun v15 =>
  if v15 = v6.1 then
    some v13
  else
    none
set_option maxRecDepth 100000 in
set_option maxHeartbeats 4000000 in
theorem jc_12 {Γ : aj_G} {k1 k2 z n : Nat} {o m a : Option Nat} {sc : Nat → Int32} {i : Int32} {w w' : aw_W} (G : aj_ok Γ y_L_law b_L_law 8 (some .boolean) rm_L_law) (S : aj_sc Γ z n sc) (hk1 : k1 + 4 ≤ 601024) (hk2 : k2 + 24 ≤ 7293034) (hm : f_L_case12 w o m a n sc i = some w') (hK : aj_J Γ 8 (k1 + 4, k2 + 24) 992 (aj_llv z o m a i) [] w') : aj_J Γ 8 (k1, k2) 904 (aj_llv z o m a i) [] w := by
  unfold f_L_case12 at hm
  refine j_wide (k1 + 0, k2 + 0) (Nat.le_refl _) (Nat.le_refl _) ?_
  refine j_aload_n G d_L_law_904 rfl ?_
  refine j_aload_n G d_L_law_905 rfl ?_
  refine j_iload G d_L_law_906 rfl ?_
  refine j_iconst (v := 1) G d_L_law_908 (by decide) ?_
  refine j_iadd G d_L_law_909 ?_
  obtain ⟨v1, hv1, hm⟩ := Option.bind_eq_some_iff.mp hm
  refine j_scld G S d_L_law_910 hv1 ?_
  refine j_aload_n G d_L_law_911 rfl ?_
  refine j_iload G d_L_law_912 rfl ?_
  refine j_iconst (v := 2) G d_L_law_914 (by decide) ?_
  refine j_iadd G d_L_law_915 ?_
  obtain ⟨v2, hv2, hm⟩ := Option.bind_eq_some_iff.mp hm
  refine j_scld G S d_L_law_916 hv2 ?_
  refine j_aload_n G d_L_law_917 rfl ?_
  refine j_iload G d_L_law_918 rfl ?_
  refine j_iconst (v := 3) G d_L_law_920 (by decide) ?_
  refine j_iadd G d_L_law_921 ?_
  obtain ⟨v3, hv3, hm⟩ := Option.bind_eq_some_iff.mp hm
  refine j_scld G S d_L_law_922 hv3 ?_
  obtain ⟨j4, hj4, ho4⟩ := Option.bind_eq_some_iff.mp hm
  clear hm
  have hJ4 : aj_J Γ 8 (k1 + 0, k2 + 0) 931 [(0, aRf (some z)), (1, aRf o), (2, aRf m), (3, aRf a), (4, aI i)] [aI j4, aI v2, aI v1, aRf o] w := by
    clear hj4
    have hm := ho4
    clear ho4
    refine j_aload_n G d_L_law_931 rfl ?_
    refine j_iload G d_L_law_932 rfl ?_
    refine j_iconst (v := 4) G d_L_law_934 (by decide) ?_
    refine j_iadd G d_L_law_935 ?_
    obtain ⟨v5, hv5, hm⟩ := Option.bind_eq_some_iff.mp hm
    refine j_scld G S d_L_law_936 hv5 ?_
    obtain ⟨v6, hv6, hm⟩ := Option.bind_eq_some_iff.mp hm
    refine j_callSh (As := [aRf o, aI v1, aI v2, aI j4, aI v5]) G d_L_law_937 (ch_L_spoil _ G.off _ _ _ _ _ _ _ _ _ _ hv6) mh_L_spoil mhs_L_spoil wd_3_239 rfl rfl (Nat.le_of_ble_eq_true rfl) ⟨by decide, by decide⟩ ⟨by dsimp only [rm_L_law, rm_L_spoil]; omega, by dsimp only [rm_L_law, rm_L_spoil]; omega⟩ (fun v9 w9 hp => ?_)
    obtain ⟨rfl, rfl⟩ := hp
    refine j_istore G d_L_law_940 (by decide) ?_
    refine j_aload_n G d_L_law_942 rfl ?_
    refine j_aload_n G d_L_law_943 rfl ?_
    refine j_iload G d_L_law_944 rfl ?_
    refine j_iconst (v := 1) G d_L_law_946 (by decide) ?_
    refine j_iadd G d_L_law_947 ?_
    obtain ⟨v7, hv7, hm⟩ := Option.bind_eq_some_iff.mp hm
    refine j_scld G S d_L_law_948 hv7 ?_
    refine j_aload_n G d_L_law_949 rfl ?_
    refine j_iload G d_L_law_950 rfl ?_
    refine j_iconst (v := 2) G d_L_law_952 (by decide) ?_
    refine j_iadd G d_L_law_953 ?_
    obtain ⟨v8, hv8, hm⟩ := Option.bind_eq_some_iff.mp hm
    refine j_scld G S d_L_law_954 hv8 ?_
    refine j_aload_n G d_L_law_955 rfl ?_
    refine j_iload G d_L_law_956 rfl ?_
    refine j_iconst (v := 3) G d_L_law_958 (by decide) ?_
    refine j_iadd G d_L_law_959 ?_
    obtain ⟨v9, hv9, hm⟩ := Option.bind_eq_some_iff.mp hm
    refine j_scld G S d_L_law_960 hv9 ?_
    obtain ⟨j10, hj10, ho10⟩ := Option.bind_eq_some_iff.mp hm
    clear hm
    have hJ10 : aj_J Γ 8 (k1 + 1, k2 + 6) 969 [(0, aRf (some z)), (1, aRf o), (2, aRf m), (3, aRf a), (4, aI i), (5, aI v6.1)] [aI j10, aI v8, aI v7, aRf m] v6.2 := by
      clear hj10
      have hm := ho10
      clear ho10
      refine j_aload_n G d_L_law_969 rfl ?_
      refine j_iload G d_L_law_970 rfl ?_
      refine j_iconst (v := 4) G d_L_law_972 (by decide) ?_
      refine j_iadd G d_L_law_973 ?_
      obtain ⟨v11, hv11, hm⟩ := Option.bind_eq_some_iff.mp hm
      refine j_scld G S d_L_law_974 hv11 ?_
      obtain ⟨v12, hv12, hm⟩ := Option.bind_eq_some_iff.mp hm
      obtain ⟨v13, hv13, hm⟩ := Option.bind_eq_some_iff.mp hm
      refine j_callV (As := [aI v7, aI v8, aI j10, aI v11]) G d_L_law_975 (c_M_spoil _ G.off _ _ _ _ _ _ _ _ _ _ hv13) mw_M_spoil mi_M_spoil lk_L_121 rfl hv12 rfl rfl (Nat.le_of_ble_eq_true rfl) ⟨by decide, by decide⟩ ⟨by dsimp only [rm_L_law, rm_L_spoil, rm_M_spoil]; omega, by dsimp only [rm_L_law, rm_L_spoil, rm_M_spoil]; omega⟩ (fun v9 w9 hp => ?_)
      obtain ⟨rfl, rfl⟩ := hp
      refine j_aload_n G d_L_law_978 rfl ?_
      obtain ⟨v14, hv14, hm⟩ := Option.bind_eq_some_iff.mp hm
      obtain ⟨v15, hv15, hm⟩ := Option.bind_eq_some_iff.mp hm
      refine j_callV (As := []) G d_L_law_979 (c_M_thrown _ G.off _ _ _ _ _ _ hv15) mw_M_thrown mi_M_thrown lk_L_72 rfl hv14 rfl rfl (Nat.le_of_ble_eq_true rfl) ⟨by decide, by decide⟩ ⟨by dsimp only [rm_L_law, rm_L_spoil, rm_M_spoil, rm_M_thrown]; omega, by dsimp only [rm_L_law, rm_L_spoil, rm_M_spoil, rm_M_thrown]; omega⟩ (fun v9 w9 hp => ?_)
      obtain ⟨rfl, rfl⟩ := hp
      refine j_iload G d_L_law_982 rfl ?_
      refine j_icmp_eq (tgt := 989) G d_L_law_984 rfl (fun hc => ?_) (fun hc => ?_)
      · rw [if_pos hc] at hm
        refine j_goto (tgt := 992) G d_L_law_989 rfl ?_
        obtain rfl := Option.some.inj hm
        refine j_lv (aj_llv z o m a i) rfl ?_
        refine j_wide (k1 + 4, k2 + 24) (by dsimp only [rm_L_spoil, rm_M_spoil, rm_M_thrown]; omega) (by dsimp only [rm_L_spoil, rm_M_spoil, rm_M_thrown]; omega) ?_
        exact hK
      · rw [if_neg hc] at hm
        refine j_iconst (v := 0) G d_L_law_987 (by decide) ?_
        cases hm
    clear ho10
    have hm := hj10
    clear hj10
    refine j_if_eq (tgt := 968) G d_L_law_961 rfl (fun hc => ?_) (fun hc => ?_)
    · rw [if_pos hc] at hm
      refine j_iconst (v := 0) G d_L_law_968 (by decide) ?_
      obtain rfl := Option.some.inj hm
      refine j_lv [(0, aRf (some z)), (1, aRf o), (2, aRf m), (3, aRf a), (4, aI i), (5, aI v6.1)] rfl ?_
      exact hJ10
    · rw [if_neg hc] at hm
      refine j_iconst (v := 1) G d_L_law_964 (by decide) ?_
      refine j_goto (tgt := 969) G d_L_law_965 rfl ?_
      obtain rfl := Option.some.inj hm
      refine j_lv [(0, aRf (some z)), (1, aRf o), (2, aRf m), (3, aRf a), (4, aI i), (5, aI v6.1)] rfl ?_
      exact hJ10
  clear ho4
  have hm := hj4
  clear hj4
  refine j_if_eq (tgt := 930) G d_L_law_923 rfl (fun hc => ?_) (fun hc => ?_)
  · rw [if_pos hc] at hm
    refine j_iconst (v := 0) G d_L_law_930 (by decide) ?_
    obtain rfl := Option.some.inj hm
    refine j_lv [(0, aRf (some z)), (1, aRf o), (2, aRf m), (3, aRf a), (4, aI i)] rfl ?_
    exact hJ4
  · rw [if_neg hc] at hm
    refine j_iconst (v := 1) G d_L_law_926 (by decide) ?_
    refine j_goto (tgt := 931) G d_L_law_927 rfl ?_
    obtain rfl := Option.some.inj hm
    refine j_lv [(0, aRf (some z)), (1, aRf o), (2, aRf m), (3, aRf a), (4, aI i)] rfl ?_
    exact hJ4
