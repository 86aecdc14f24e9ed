/-! ===== the merger: where it stands, its outputs ===== -/
/-- on to the next record, past the files that have none left -/
def pk_sk (cs : Nat → Nat) : Nat → Nat → Nat → Nat × Nat
  | 0, af, ar => (af, ar)
  | n + 1, af, ar => if ar < cs af then (af, ar) else pk_sk cs n (af + 1) 0
theorem pk_sk_le (cs : Nat → Nat) : ∀ n af ar, af ≤ (pk_sk cs n af ar).1 ∧ (pk_sk cs n af ar).1 ≤ af + n
  | 0, af, ar => ⟨Nat.le_refl _, Nat.le_refl _⟩
  | n + 1, af, ar => by
    unfold pk_sk
    split
    · exact ⟨Nat.le_refl _, by dsimp only; omega⟩
    · have := pk_sk_le cs n (af + 1) 0
      omega
theorem pk_sk_lt (cs : Nat → Nat) : ∀ n af ar, (pk_sk cs n af ar).1 < af + n → (pk_sk cs n af ar).2 < cs (pk_sk cs n af ar).1
  | 0, af, ar, h => absurd h (Nat.lt_irrefl _)
  | n + 1, af, ar, h => by
    unfold pk_sk at h ⊢
    split
    · next c => exact c
    · next c =>
      rw [if_neg c] at h
      exact pk_sk_lt cs n (af + 1) 0 (by omega)
theorem pk_sk_id (cs : Nat → Nat) (n af ar : Nat) (h : n = 0 ∨ ar < cs af) : pk_sk cs n af ar = (af, ar) := by
  cases n with
  | zero => rfl
  | succ n =>
    unfold pk_sk
    rw [if_pos (h.elim (fun h => nomatch h) id)]
section
variable {μ μ' : pw_Mem} {s : Option Nat} {b time cnt last made taken af ar : Nat} {cl act : Bool} {sl ou fs : List Nat} {φ : Nat → qf} {P : Nat → Prop} {D : List (Nat × Nat × Nat)}
theorem kG_g0 (h : kG μ b ou made taken af ar) : aw_gR (s, pw_lay (pw_σ b) μ) (some (b + 107)) 2 0 = some (some (b + 108)) := by rw [pg_G_0, pw_ob_of kG_sh]; exact congrArg some h.1
theorem kG_g1 (h : kG μ b ou made taken af ar) : aw_gI (s, pw_lay (pw_σ b) μ) (some (b + 107)) 2 1 = some (nI made) := by rw [pg_G_1, pw_ob_of kG_sh]; exact congrArg some h.2.1
theorem kG_g2 (h : kG μ b ou made taken af ar) : aw_gI (s, pw_lay (pw_σ b) μ) (some (b + 107)) 2 2 = some (nI taken) := by rw [pg_G_2, pw_ob_of kG_sh]; exact congrArg some h.2.2.1
theorem kG_g3 (h : kG μ b ou made taken af ar) : aw_gI (s, pw_lay (pw_σ b) μ) (some (b + 107)) 2 3 = some (nI af) := by rw [pg_G_3, pw_ob_of kG_sh]; exact congrArg some h.2.2.2.1
theorem kG_g4 (h : kG μ b ou made taken af ar) : aw_gI (s, pw_lay (pw_σ b) μ) (some (b + 107)) 2 4 = some (nI ar) := by rw [pg_G_4, pw_ob_of kG_sh]; exact congrArg some h.2.2.2.2.1
theorem kG_len : aw_len (s, pw_lay (pw_σ b) μ) (some (b + 108)) 5 = some (nI 6) := by rw [pw_len, pw_aa_of kG_ar]; rfl
theorem kG_row (h : kG μ b ou made taken af ar) {i : Nat} (hi : i < 6) : aw_aR (s, pw_lay (pw_σ b) μ) (some (b + 108)) 5 (nI i) = some ou[i]? := by
  rw [pw_aR_5, pw_aa_of kG_ar]
  simp only [Option.bind_some]
  rw [aw_ix_nI hi (by decide)]
  exact congrArg some (h.2.2.2.2.2.2.1 i hi)
theorem kG_getD (h : kG μ b ou made taken af ar) {i : Nat} (hi : i < 6) : ou[i]? = some (ou.getD i 0) ∧ ou.getD i 0 ∈ ou ∧ isB b (ou.getD i 0) := by
  have h5 := h.2.2.2.2.2.1
  have e : ou.getD i 0 = ou[i] := by
    unfold List.getD
    rw [List.getElem?_eq_getElem (by omega)]
    rfl
  rw [e]
  exact ⟨List.getElem?_eq_getElem (by omega), List.getElem_mem _, h.2.2.2.2.2.2.2 _ (List.getElem_mem _)⟩
theorem kG_p1 (h : kG μ b ou made taken af ar) (n : Nat) : ∃ μ', aw_pV (s, pw_lay (pw_σ b) μ) (some (b + 107)) 2 1 (.int (nI n)) = some (s, pw_lay (pw_σ b) μ') ∧ kG μ' b ou n taken af ar ∧ pw_fr μ μ' (fun a => a = b + 107) := by
  refine ⟨pw_sI μ (b + 107) 1 (nI n), by rw [pp_G_1, pw_ob_of kG_sh]; rfl, ?_, pw_fr.sI rfl⟩
  obtain ⟨h1, h2, h3, h4, h5, h6, h7, h8⟩ := h
  exact ⟨h1, by rw [pw_sI_I, if_pos ⟨rfl, rfl⟩], by rw [pw_sI_I, if_neg (by omega)]; exact h3, by rw [pw_sI_I, if_neg (by omega)]; exact h4, by rw [pw_sI_I, if_neg (by omega)]; exact h5, h6, h7, h8⟩
theorem kG_p2 (h : kG μ b ou made taken af ar) (n : Nat) : ∃ μ', aw_pV (s, pw_lay (pw_σ b) μ) (some (b + 107)) 2 2 (.int (nI n)) = some (s, pw_lay (pw_σ b) μ') ∧ kG μ' b ou made n af ar ∧ pw_fr μ μ' (fun a => a = b + 107) := by
  refine ⟨pw_sI μ (b + 107) 2 (nI n), by rw [pp_G_2, pw_ob_of kG_sh]; rfl, ?_, pw_fr.sI rfl⟩
  obtain ⟨h1, h2, h3, h4, h5, h6, h7, h8⟩ := h
  exact ⟨h1, by rw [pw_sI_I, if_neg (by omega)]; exact h2, by rw [pw_sI_I, if_pos ⟨rfl, rfl⟩], by rw [pw_sI_I, if_neg (by omega)]; exact h4, by rw [pw_sI_I, if_neg (by omega)]; exact h5, h6, h7, h8⟩
theorem kG_p3 (h : kG μ b ou made taken af ar) (n : Nat) : ∃ μ', aw_pV (s, pw_lay (pw_σ b) μ) (some (b + 107)) 2 3 (.int (nI n)) = some (s, pw_lay (pw_σ b) μ') ∧ kG μ' b ou made taken n ar ∧ pw_fr μ μ' (fun a => a = b + 107) := by
  refine ⟨pw_sI μ (b + 107) 3 (nI n), by rw [pp_G_3, pw_ob_of kG_sh]; rfl, ?_, pw_fr.sI rfl⟩
  obtain ⟨h1, h2, h3, h4, h5, h6, h7, h8⟩ := h
  exact ⟨h1, by rw [pw_sI_I, if_neg (by omega)]; exact h2, by rw [pw_sI_I, if_neg (by omega)]; exact h3, by rw [pw_sI_I, if_pos ⟨rfl, rfl⟩], by rw [pw_sI_I, if_neg (by omega)]; exact h5, h6, h7, h8⟩
theorem kG_p4 (h : kG μ b ou made taken af ar) (n : Nat) : ∃ μ', aw_pV (s, pw_lay (pw_σ b) μ) (some (b + 107)) 2 4 (.int (nI n)) = some (s, pw_lay (pw_σ b) μ') ∧ kG μ' b ou made taken af n ∧ pw_fr μ μ' (fun a => a = b + 107) := by
  refine ⟨pw_sI μ (b + 107) 4 (nI n), by rw [pp_G_4, pw_ob_of kG_sh]; rfl, ?_, pw_fr.sI rfl⟩
  obtain ⟨h1, h2, h3, h4, h5, h6, h7, h8⟩ := h
  exact ⟨h1, by rw [pw_sI_I, if_neg (by omega)]; exact h2, by rw [pw_sI_I, if_neg (by omega)]; exact h3, by rw [pw_sI_I, if_neg (by omega)]; exact h4, by rw [pw_sI_I, if_pos ⟨rfl, rfl⟩], h6, h7, h8⟩
theorem kG_drop (h : kG μ b ou made taken af ar) : ∃ μ', f_G_drop (s, pw_lay (pw_σ b) μ) (some (b + 107)) = some (s, pw_lay (pw_σ b) μ') ∧ kG μ' b ou made 0 af ar ∧ pw_fr μ μ' (fun a => a = b + 107) := by
  obtain ⟨μ1, e, h1, g⟩ := kG_p2 (s := s) h 0
  unfold f_G_drop
  rw [show (Value.int 0) = Value.int (nI 0) from rfl, e]
  exact ⟨μ1, rfl, h1, g⟩
theorem kG_goes (h : kG μ b ou made taken af ar) (ht : taken ≤ 6) : f_G_goesOn (s, pw_lay (pw_σ b) μ) (some (b + 107)) = some (if taken = 0 then 0 else 1) := by
  unfold f_G_goesOn
  rw [kG_g2 h, Option.bind_some]
  by_cases c : taken = 0
  · rw [if_pos c, c, if_pos (by decide), Option.bind_some, aw_zz_0]
    rfl
  · rw [if_neg c, if_neg (nI_nle (by omega) (by omega)), Option.bind_some, aw_zz_1]
    rfl
theorem kG_begin (h : kG μ b ou made taken af ar) (n : Nat) : ∃ μ', f_G_begin (s, pw_lay (pw_σ b) μ) (some (b + 107)) (nI n) = some (s, pw_lay (pw_σ b) μ') ∧ kG μ' b ou 0 n 0 0 ∧ pw_fr μ μ' (fun a => a = b + 107) := by
  obtain ⟨μ1, e1, h1, g1⟩ := kG_p2 (s := s) h n
  obtain ⟨μ2, e2, h2, g2⟩ := kG_p1 (s := s) h1 0
  obtain ⟨μ3, e3, h3, g3⟩ := kG_p3 (s := s) h2 0
  obtain ⟨μ4, e4, h4, g4⟩ := kG_p4 (s := s) h3 0
  unfold f_G_begin
  rw [show (Value.int 0) = Value.int (nI 0) from rfl, e1, Option.bind_some, e2, Option.bind_some, e3, Option.bind_some, e4]
  exact ⟨μ4, rfl, h4, ((g1.trans g2).trans g3).trans g4⟩
/-- the number of records in the file i -/
def pk_cs (φ : Nat → qf) (sl : List Nat) (i : Nat) : Nat := (φ (sl.getD i 0)).2.2.2.2.length
theorem kG_came (hG : kG μ b ou made taken af ar) (hS : kS μ b sl cnt act last) (hF : kF μ b φ) (ht : taken ≤ cnt) (ha : af ≤ taken) (hr : ar < 2 ^ 20) : pTr (pw_σ b) s (fun a μ' => a = (if (pk_sk (pk_cs φ sl) (taken - af) af ar).1 < taken then 0 else 1) ∧ kG μ' b ou made taken (pk_sk (pk_cs φ sl) (taken - af) af ar).1 (pk_sk (pk_cs φ sl) (taken - af) af ar).2 ∧ pw_fr μ μ' (fun a => a = b + 107)) (f_G_cameToAll (s, pw_lay (pw_σ b) μ) (some (b + 107)) (some (b + 1))) := by
  have h6 := hS.2.2.2.2.2.1
  generalize hK : pk_sk (pk_cs φ sl) (taken - af) af ar = K
  unfold f_G_cameToAll
  refine pw_loopG (G := pTr (pw_σ b) s _) (taken - af) (fun n a => ∃ x y μ1, a = (s, pw_lay (pw_σ b) μ1) ∧ kG μ1 b ou made taken x y ∧ pw_fr μ μ1 (fun a => a = b + 107) ∧ x ≤ taken ∧ n = taken - x ∧ y < 2 ^ 20 ∧ pk_sk (pk_cs φ sl) (taken - x) x y = K)
    (fun r => match r with
      | .inl a => ∃ μ1, a = (s, pw_lay (pw_σ b) μ1) ∧ kG μ1 b ou made taken K.1 K.2 ∧ pw_fr μ μ1 (fun a => a = b + 107) ∧ ¬ K.1 < taken
      | .inr a => ∃ μ1, a = (0, (s, pw_lay (pw_σ b) μ1)) ∧ kG μ1 b ou made taken K.1 K.2 ∧ pw_fr μ μ1 (fun a => a = b + 107) ∧ K.1 < taken) ⟨af, ar, μ, rfl, hG, pw_fr.rfl, ha, rfl, hr, hK⟩ ?_ ?_
  · rintro n a ⟨x, y, μ1, rfl, g1, fr1, hx, hn, hy, hk⟩
    rw [kG_g3 g1, Option.bind_some, kG_g2 g1, Option.bind_some]
    by_cases c : x < taken
    · have hS1 := hS.fr fr1 (by omega) (by omega)
      have hF1 := hF.fr fr1 (fun a ha hc => by omega)
      obtain ⟨z1, z2, z3⟩ := kS_getD hS (i := x) (by omega)
      have q := hF1 _ z3
      have h11 := q.2.2.2.2.2.2.2.1
      obtain ⟨m, hm⟩ : ∃ m, taken - x = m + 1 := ⟨taken - x - 1, by omega⟩
      rw [hm, pk_sk] at hk
      rw [if_neg (nI_ge c (by omega)), Option.bind_some, kS_ob, Option.bind_some, kS_at hS1 (by omega), if_pos (show x < cnt by omega), z1, Option.bind_some]
      rw [if_neg (fun hc => nomatch hc), kG_g4 g1, Option.bind_some, qF_ob q, Option.bind_some, pf_count q.1, Option.bind_some, q.2.2.2.2.2.2.1]
      by_cases c2 : y < (φ (sl.getD x 0)).2.2.2.2.length
      · rw [if_pos (show y < pk_cs φ sl x from c2)] at hk
        right
        rw [if_neg (nI_ge c2 (by omega))]
        refine ⟨_, rfl, ?_⟩
        exact ⟨μ1, rfl, by rw [← hk]; exact g1, fr1, by rw [← hk]; exact c⟩
      · rw [if_neg (show ¬ y < pk_cs φ sl x from c2)] at hk
        left
        obtain ⟨μ2, e2, g2, fr2⟩ := kG_p3 (s := s) g1 (x + 1)
        obtain ⟨μ3, e3, g3, fr3⟩ := kG_p4 (s := s) g2 0
        rw [if_pos (nI_le (by omega) (by omega)), Option.bind_some, nI_1, e2, Option.bind_some, show (Value.int 0) = Value.int (nI 0) from rfl, e3]
        refine ⟨m, _, by omega, rfl, x + 1, 0, μ3, rfl, g3, (fr1.trans fr2).trans fr3, by omega, by omega, by decide, ?_⟩
        rw [show taken - (x + 1) = m by omega]
        exact hk
    · right
      rw [if_pos (nI_le (by omega) (by omega))]
      rw [show taken - x = 0 by omega, pk_sk] at hk
      refine ⟨_, rfl, ?_⟩
      exact ⟨μ1, rfl, by rw [← hk]; exact g1, fr1, by rw [← hk]; exact c⟩
  · intro r hr
    cases r with
    | inl a =>
      obtain ⟨μ1, rfl, g1, fr1, hk⟩ := hr
      exact ⟨1, μ1, rfl, by rw [if_neg hk], g1, fr1⟩
    | inr a =>
      obtain ⟨μ1, rfl, g1, fr1, hk⟩ := hr
      exact ⟨0, μ1, rfl, by rw [if_pos hk], g1, fr1⟩
/-- a copy of the record r of the file u -/
def pt_cp (t u : qf) (r : qr) : qf := (t.1, t.2.1 ++ (u.2.1.drop r.1).take (pn_len r.2.1 r.2.2.2), t.2.2.1, t.2.2.2.1, t.2.2.2.2 ++ [(t.2.1.length, r.2.1, r.2.2.1, r.2.2.2)])
/-- has the last output room? -/
def pk_ofit (φ : Nat → qf) (ou : List Nat) (made z : Nat) : Prop := 0 < made ∧ (φ (ou.getD (made - 1) 0)).2.1.length + z ≤ 100
theorem kG_out (hG : kG μ b ou made taken af ar) (hF : kF μ b φ) (hm : made ≤ 6) {z : Nat} (hz : z < 2 ^ 30) :
    (pk_ofit φ ou made z → f_G_outputFor (s, pw_lay (pw_σ b) μ) (some (b + 107)) (nI z) = some (some (ou.getD (made - 1) 0), (s, pw_lay (pw_σ b) μ))) ∧
    (¬ pk_ofit φ ou made z → made < 6 → ∃ μ', f_G_outputFor (s, pw_lay (pw_σ b) μ) (some (b + 107)) (nI z) = some (some (ou.getD made 0), (s, pw_lay (pw_σ b) μ')) ∧ kG μ' b ou (made + 1) taken af ar ∧ kF μ' b (pu φ (ou.getD made 0) (0, [], 0, [], [])) ∧ pw_fr μ μ' (fun a => a = b + 107 ∨ pw_in (ou.getD made 0) a)) := by
  have key : (if nI made ≤ 0 then some (0 : Int32) else (aw_gR (s, pw_lay (pw_σ b) μ) (some (b + 107)) 2 0).bind fun v2 => (aw_gI (s, pw_lay (pw_σ b) μ) (some (b + 107)) 2 1).bind fun v3 => (aw_aR (s, pw_lay (pw_σ b) μ) v2 5 (v3 - (1 : Int32))).bind fun v4 => (aw_obj (s, pw_lay (pw_σ b) μ) v4 6).bind fun _ => (f_F_bytes (s, pw_lay (pw_σ b) μ) v4).bind fun v6 => (aw_obj (s, pw_lay (pw_σ b) μ) v6 3).bind fun _ => (f_O_hasRoomFor (s, pw_lay (pw_σ b) μ) v6 (nI z)).bind fun v8 => if v8 = 0 then some (0 : Int32) else some (1 : Int32) : Option Int32) = some (if 0 < made ∧ (φ (ou.getD (made - 1) 0)).2.1.length + z ≤ 100 then 1 else 0) := by
    by_cases c : 0 < made
    · obtain ⟨n, rfl⟩ : ∃ n, made = n + 1 := ⟨made - 1, by omega⟩
      obtain ⟨z1, z2, z3⟩ := kG_getD hG (i := n) (by omega)
      have q := hF _ z3
      rw [if_neg (nI_nle c (by omega)), kG_g0 hG, Option.bind_some, kG_g1 hG, Option.bind_some, nI_pred, kG_row hG (by omega), Option.bind_some, z1, qF_ob q, Option.bind_some, pf_bytes q.1 q.2.1, Option.bind_some, qF_ob1 q, Option.bind_some, po_room q.2.2.1.1 hz, Option.bind_some, pw_map_len, Nat.add_sub_cancel]
      by_cases c2 : (φ (ou.getD n 0)).2.1.length + z ≤ 100
      · rw [if_pos c2, if_neg (by decide), if_pos ⟨c, c2⟩]
      · rw [if_neg c2, if_pos rfl, if_neg (fun hc => c2 hc.2)]
    · have c0 : made = 0 := by omega
      rw [if_pos (by rw [c0]; decide), if_neg (fun hc => c hc.1)]
  unfold f_G_outputFor
  rw [kG_g1 hG, Option.bind_some]
  unfold pk_ofit
  rw [kG_g1 hG] at key
  rw [key, Option.bind_some]
  refine ⟨fun hc => ?_, fun hc hm6 => ?_⟩
  · obtain ⟨n, rfl⟩ : ∃ n, made = n + 1 := ⟨made - 1, by omega⟩
    obtain ⟨z1, z2, z3⟩ := kG_getD hG (i := n) (by omega)
    rw [if_pos hc, if_neg (by decide), Option.bind_some, kG_g0 hG, Option.bind_some, kG_g1 hG, Option.bind_some, nI_pred, kG_row hG (by omega), Option.bind_some, z1]
    rfl
  · obtain ⟨z1, z2, z3⟩ := kG_getD hG (i := made) hm6
    obtain ⟨μ1, e1, q1, g1⟩ := qF_begin (s := s) (hF _ z3) 0
    have hG1 := hG.fr g1 (z3.ne (by omega)) (z3.ne (by omega))
    obtain ⟨μ2, e2, hG2, g2⟩ := kG_p1 (s := s) hG1 (made + 1)
    rw [if_neg hc, if_pos rfl, Option.bind_some, kG_g0 hG, Option.bind_some, kG_len, Option.bind_some, if_neg (nI_ge hm6 (by decide)), Option.bind_some, Option.bind_some, kG_row hG hm6, Option.bind_some, z1, qF_ob (hF _ z3), Option.bind_some, show (0 : Int32) = nI 0 from rfl, e1, Option.bind_some, kG_g1 hG1, Option.bind_some, nI_1, e2, Option.bind_some, Option.bind_some, kG_g0 hG2, Option.bind_some, kG_g1 hG2, Option.bind_some, nI_pred, kG_row hG2 hm6, Option.bind_some, z1]
    exact ⟨μ2, rfl, hG2, (hF.upd z3 g1 q1).fr g2 (fun a ha hc => by omega), (g1.mono (fun a ha => Or.inr ha)).trans (g2.mono (fun a ha => Or.inl ha))⟩
end
