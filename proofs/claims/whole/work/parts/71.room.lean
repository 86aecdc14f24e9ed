/-! ===== room for a record; the directory over the files ===== -/
theorem nI_65535 (n : Nat) : nI n &&& 65535 = nI (n % 65536) := by
  apply Int32.toBitVec_inj.mp
  rw [Int32.toBitVec_and, nI_bv, nI_bv]
  apply BitVec.eq_of_toNat_eq
  rw [BitVec.toNat_and, BitVec.toNat_ofNat, BitVec.toNat_ofNat, show ((65535 : Int32).toBitVec).toNat = 2 ^ 16 - 1 by decide, Nat.and_two_pow_sub_one_eq_mod]
  omega
/-- a record's cell -/
def ad (q : Nat × Nat) : Nat := q.1 + 6 + q.2
/-- the directory's cells -/
def kE (μ : pw_Mem) (b : Nat) (D : List (Nat × Nat × Nat)) : Prop := pw_D (pw_σ b) μ (b + 105) (D.map fun e => ad e.2)
/-- every entry is a record of one of the files -/
def dOK (φ : Nat → qf) (fs : List Nat) (D : List (Nat × Nat × Nat)) : Prop := ∀ e ∈ D, e.2.1 ∈ fs ∧ ∃ r, (φ e.2.1).2.2.2.2[e.2.2]? = some r ∧ e.1 = pn_rank r.2.1 r.2.2.1
/-- a sound record -/
def rV (r : qr) : Prop := 1 ≤ r.2.1 ∧ r.2.1 ≤ 4 ∧ r.2.2.1 < 2 ^ (8 * r.2.1) ∧ (r.2.2.2 ≤ 8 ∨ r.2.2.2 = 255) ∧ r.1 + pn_len r.2.1 r.2.2.2 ≤ 100
/-- a sound file -/
def qV (t : qf) : Prop := qB t.2.1 ∧ qB t.2.2.2.1 ∧ (t.2.2.2.1 = [] ∨ 4 ≤ t.2.2.2.1.length) ∧ t.2.2.1 ≤ t.2.1.length ∧ ∀ r ∈ t.2.2.2.2, rV r
/-- records one behind the other -/
def qCh : Nat → List qr → Nat → Prop
  | p, [], e => p = e
  | p, r :: t, e => r.1 = p ∧ qCh (p + pn_len r.2.1 r.2.2.2) t e
theorem qCh.len : ∀ {p : Nat} {rs : List qr} {e : Nat}, qCh p rs e → (∀ r ∈ rs, rV r) → p + 9 * rs.length ≤ e
  | p, [], e, h, _ => Nat.le_of_eq h
  | p, r :: t, e, h, v => by
    have := h.2.len (fun q hq => v q (List.mem_cons_of_mem _ hq))
    have l := pn_len_ge r.2.1 r.2.2.2
    have k := (v r List.mem_cons_self).1
    rw [List.length_cons]
    omega
theorem qCh.snoc : ∀ {p : Nat} {rs : List qr} {e : Nat}, qCh p rs e → ∀ r : qr, r.1 = e → qCh p (rs ++ [r]) (e + pn_len r.2.1 r.2.2.2)
  | p, [], e, h, r, hr => by cases h; exact ⟨hr, rfl⟩
  | p, q :: t, e, h, r, hr => ⟨h.1, h.2.snoc r hr⟩
theorem rV.rank {r : qr} (h : rV r) : pn_rank r.2.1 r.2.2.1 < 2 ^ 62 := Nat.lt_trans (pn_rank_lt h.1 h.2.1 h.2.2.1) (by decide)
section
variable {μ μ' : pw_Mem} {s : Option Nat} {b time cnt last made taken af ar : Nat} {cl act : Bool} {sl ou fs : List Nat} {φ : Nat → qf} {P : Nat → Prop} {D : List (Nat × Nat × Nat)}
theorem kE.fr (h : kE μ b D) (g : pw_fr μ μ' P) (n : ¬ P (b + 105)) (n2 : ¬ P (b + 106)) : kE μ' b D := pw_D.fr h g n n2
theorem kD_of (h : kE μ b D) (hF : kF μ b φ) (ok : dOK φ fs D) (hb : ∀ f ∈ fs, isB b f) (hv : ∀ f, isB b f → qV (φ f)) : kD (pw_σ b) μ (b + 105) (D.map fun e => (e.1, ad e.2)) := by
  refine ⟨?_, fun e he => ?_⟩
  · rw [List.map_map]
    exact h
  · obtain ⟨e0, he0, rfl⟩ := List.mem_map.mp he
    obtain ⟨h1, r, h2, h3⟩ := ok e0 he0
    have hB := hb _ h1
    have q := hF _ hB
    refine ⟨?_, ?_⟩
    · show μ.2.1 (e0.2.1 + 6 + e0.2.2) 2 = lN e0.1
      rw [h3]
      exact (q.2.2.2.2.2.2.2.2 _ r h2).2.2.1
    · show e0.1 < 2 ^ 62
      rw [h3]
      exact ((hv _ hB).2.2.2.2 r (List.mem_of_getElem? h2)).rank
theorem kS_p1 (h : kS μ b sl cnt act last) (n : Nat) (hn : n ≤ 6) (ha : act = true → 0 < n) (hs : act = true → sl[n - 1]? = sl[cnt - 1]?) : ∃ μ', aw_pV (s, pw_lay (pw_σ b) μ) (some (b + 1)) 5 1 (.int (nI n)) = some (s, pw_lay (pw_σ b) μ') ∧ kS μ' b sl n act last ∧ pw_fr μ μ' (fun a => a = b + 1) := by
  refine ⟨pw_sI μ (b + 1) 1 (nI n), by rw [pp_S_1, pw_ob_of kS_sh]; rfl, ?_, pw_fr.sI rfl⟩
  obtain ⟨h1, h2, h3, h4, h5, h6, h7, h8, h9⟩ := h
  refine ⟨h1, by rw [pw_sI_I, if_pos ⟨rfl, rfl⟩], ?_, by rw [pw_sI_I, if_neg (by omega)]; exact h4, h5, hn, ha, h8, h9⟩
  rw [pw_sI_R, h3]
  cases act with
  | false => rfl
  | true => rw [if_pos rfl, if_pos rfl, hs rfl]
theorem kS_p3 (h : kS μ b sl cnt act last) (n : Nat) : ∃ μ', aw_pV (s, pw_lay (pw_σ b) μ) (some (b + 1)) 5 3 (.int (nI n)) = some (s, pw_lay (pw_σ b) μ') ∧ kS μ' b sl cnt act n ∧ pw_fr μ μ' (fun a => a = b + 1) := by
  refine ⟨pw_sI μ (b + 1) 3 (nI n), by rw [pp_S_3, pw_ob_of kS_sh]; rfl, ?_, pw_fr.sI rfl⟩
  obtain ⟨h1, h2, h3, h4, h5, h6, h7, h8, h9⟩ := h
  exact ⟨h1, by rw [pw_sI_I, if_neg (by omega)]; exact h2, h3, by rw [pw_sI_I, if_pos ⟨rfl, rfl⟩], h5, h6, h7, h8, h9⟩
/-- the files when a new one is begun -/
def pu_new (φ : Nat → qf) (sl : List Nat) (cnt : Nat) (act : Bool) (last : Nat) : Nat → qf := pu (pu_sync φ sl cnt act) (sl.getD cnt 0) (last + 1, [], 0, [], [])
theorem kS_new (h : kS μ b sl cnt act last) (hF : kF μ b φ) (hc : cnt < 6) : ∃ μ', ((f_S_sealActive (s, pw_lay (pw_σ b) μ) (some (b + 1))).bind fun v6 =>
      (aw_gI v6 (some (b + 1)) 5 3).bind fun v7 =>
      (aw_pV v6 (some (b + 1)) 5 3 (.int (v7 + (1 : Int32)))).bind fun v8 =>
      (aw_gR v8 (some (b + 1)) 5 0).bind fun v9 =>
      (aw_gI v8 (some (b + 1)) 5 1).bind fun v10 =>
      (aw_aR v8 v9 5 v10).bind fun v11 =>
      (aw_pV v8 (some (b + 1)) 5 2 (va_rf v11)).bind fun v12 =>
      (aw_gR v12 (some (b + 1)) 5 2).bind fun v13 =>
      (aw_gI v12 (some (b + 1)) 5 3).bind fun v14 =>
      (aw_obj v12 v13 6).bind fun v15 =>
      (f_F_begin v12 v13 v14).bind fun v16 =>
      (aw_gI v16 (some (b + 1)) 5 1).bind fun v17 =>
      (aw_pV v16 (some (b + 1)) 5 1 (.int (v17 + (1 : Int32)))).bind fun v18 =>
      (aw_gR v18 (some (b + 1)) 5 2).bind fun v19 =>
      some (v19, v18)) = some (some (sl.getD cnt 0), (s, pw_lay (pw_σ b) μ')) ∧ kS μ' b sl (cnt + 1) true (last + 1) ∧ kF μ' b (pu_new φ sl cnt act last) ∧ pw_fr μ μ' (fun a => a = b + 1 ∨ ∃ f, f ∈ sl ∧ pw_in f a) := by
  have h5 := h.2.2.2.2.1
  obtain ⟨f, hf, hgd, hB, hm9⟩ : ∃ f, sl[cnt]? = some f ∧ sl.getD cnt 0 = f ∧ isB b f ∧ f ∈ sl := by
    refine ⟨sl[cnt], List.getElem?_eq_getElem (by omega), ?_, h.2.2.2.2.2.2.2.2 _ (List.getElem_mem _), List.getElem_mem _⟩
    unfold List.getD
    rw [List.getElem?_eq_getElem (by omega)]
    rfl
  obtain ⟨μ1, e1, s1, f1, g1⟩ := kS_seal (s := s) h hF
  obtain ⟨μ2, e2, s2, g2⟩ := kS_p3 (s := s) s1 (last + 1)
  have f2 := f1.fr g2 (fun a ha hc => by omega)
  -- the active file is set
  have e3 : aw_pV (s, pw_lay (pw_σ b) μ2) (some (b + 1)) 5 2 (va_rf (some f)) = some (s, pw_lay (pw_σ b) (pw_sR μ2 (b + 1) 2 (some f))) := by
    rw [pp_S_2, pw_ob_of kS_sh]
    rfl
  have g3 : pw_fr μ2 (pw_sR μ2 (b + 1) 2 (some f)) (fun a => a = b + 1) := pw_fr.sR rfl
  have f3 := f2.fr g3 (fun a ha hc => by omega)
  obtain ⟨μ4, e4, q4, g4⟩ := qF_begin (s := s) (f3 f hB) (last + 1)
  have hne : ¬ pw_in f (b + 1) := fun hc => by have := hB.at hc; omega
  have hne2 : ¬ pw_in f (b + 2) := fun hc => by have := hB.at hc; omega
  have m1 : μ4.1 (b + 1) = μ2.1 (b + 1) := (g4 (b + 1) hne).1
  have m2 : ∀ j, j ≠ 2 → μ4.2.2 (b + 1) j = μ2.2.2 (b + 1) j := fun j hj => by
    rw [(g4 (b + 1) hne).2.2]
    exact if_neg (by omega)
  have m3 : μ4.2.2 (b + 1) 2 = some f := by
    rw [(g4 (b + 1) hne).2.2]
    exact if_pos ⟨rfl, rfl⟩
  have m4 : μ4.2.2 (b + 2) = μ2.2.2 (b + 2) := by
    rw [(g4 (b + 2) hne2).2.2]
    exact pw_sR_off (by omega)
  have m5 : (pw_sR μ2 (b + 1) 2 (some f)).1 = μ2.1 := rfl
  refine ⟨pw_sI μ4 (b + 1) 1 (nI (cnt + 1)), ?_, ?_, ?_, ?_⟩
  · rw [e1, Option.bind_some, kS_g3 s1, Option.bind_some, nI_1, e2, Option.bind_some, kS_g0 s2, Option.bind_some, kS_g1 s2, Option.bind_some, kS_row s2 hc, Option.bind_some, hf, e3, Option.bind_some]
    rw [pg_S_2, pw_ob_of kS_sh]
    simp only [Option.map_some, Option.bind_some]
    rw [show (pw_sR μ2 (b + 1) 2 (some f)).2.2 (b + 1) 2 = some f from if_pos ⟨rfl, rfl⟩, pg_S_3, pw_ob_of kS_sh]
    simp only [Option.map_some, Option.bind_some]
    rw [m5, s2.2.2.2.1, qF_ob (f3 f hB), Option.bind_some, e4, Option.bind_some, pg_S_1, pw_ob_of kS_sh]
    simp only [Option.map_some, Option.bind_some]
    rw [m1, s2.2.1, nI_1, pp_S_1, pw_ob_of kS_sh]
    simp only [Option.map_some, Option.bind_some]
    rw [pg_S_2, pw_ob_of kS_sh]
    simp only [Option.map_some, Option.bind_some]
    rw [pw_sI_R, m3, hgd]
  · obtain ⟨a1, a2, a3, a4, a5, a6, a7, a8, a9⟩ := s2
    refine ⟨?_, ?_, ?_, ?_, a5, by omega, fun _ => by omega, fun i hi => ?_, a9⟩
    · rw [pw_sI_R, m2 0 (by decide)]; exact a1
    · rw [pw_sI_I, if_pos ⟨rfl, rfl⟩]
    · rw [pw_sI_R, m3, if_pos rfl, Nat.add_sub_cancel, hf]
    · rw [pw_sI_I, if_neg (by omega), m1]; exact a4
    · rw [pw_sI_R, m4]; exact a8 i hi
  · unfold pu_new
    rw [hgd]
    exact (f3.upd hB g4 q4).fr (pw_fr.sI (P := fun a => a = b + 1) rfl) (fun a ha hc => by omega)
  · refine ((((g1.mono (fun a ha => ?_)).trans (g2.mono (fun a ha => Or.inl ha))).trans (g3.mono (fun a ha => Or.inl ha))).trans (g4.mono (fun a ha => Or.inr ⟨f, hm9, ha⟩))).trans (pw_fr.sI (Or.inl rfl))
    rcases ha with ha | ⟨f', hf', rfl⟩
    · exact Or.inl ha
    · exact Or.inr ⟨a, hf', ⟨Nat.le_refl _, by omega⟩⟩
/-- is there room in the active file? -/
def pk_fit (φ : Nat → qf) (sl : List Nat) (cnt : Nat) (act : Bool) (z : Nat) : Prop := act = true ∧ (φ (sl.getD (cnt - 1) 0)).2.1.length + z ≤ 100
theorem kS_room (h : kS μ b sl cnt act last) (hF : kF μ b φ) {z : Nat} (hz : z < 2 ^ 30) :
    (pk_fit φ sl cnt act z → f_S_withRoomFor (s, pw_lay (pw_σ b) μ) (some (b + 1)) (nI z) = some (some (sl.getD (cnt - 1) 0), (s, pw_lay (pw_σ b) μ))) ∧
    (¬ pk_fit φ sl cnt act z → cnt = 6 → f_S_withRoomFor (s, pw_lay (pw_σ b) μ) (some (b + 1)) (nI z) = some (none, (s, pw_lay (pw_σ b) μ))) ∧
    (¬ pk_fit φ sl cnt act z → cnt < 6 → ∃ μ', f_S_withRoomFor (s, pw_lay (pw_σ b) μ) (some (b + 1)) (nI z) = some (some (sl.getD cnt 0), (s, pw_lay (pw_σ b) μ')) ∧ kS μ' b sl (cnt + 1) true (last + 1) ∧ kF μ' b (pu_new φ sl cnt act last) ∧ pw_fr μ μ' (fun a => a = b + 1 ∨ ∃ f, f ∈ sl ∧ pw_in f a)) := by
  have h6 := h.2.2.2.2.2.1
  have tail6 : cnt = 6 → (nI cnt = nI 6) := fun e => by rw [e]
  have tailn : cnt < 6 → ¬ (nI cnt = nI 6) := fun e hc => absurd ((nI_eq (by omega) (by decide)).mp hc) (by omega)
  unfold f_S_withRoomFor
  rw [kS_g2 h, Option.bind_some]
  cases act with
  | false =>
    simp only [Bool.false_eq_true, if_false, if_true]
    rw [kS_g1 h, Option.bind_some, kS_g0 h, Option.bind_some, kS_len, Option.bind_some, kS_ob, Option.bind_some]
    refine ⟨fun hc => absurd hc.1 (by decide), fun _ e => if_pos (tail6 e), fun _ e => ?_⟩
    rw [if_neg (tailn e)]
    exact kS_new h hF e
  | true =>
    obtain ⟨f, hf, hB, -⟩ := kS_act h
    have hgd : sl.getD (cnt - 1) 0 = f := by unfold List.getD; rw [hf]; rfl
    have q := hF f hB
    simp only [if_true, hf, Option.bind_some]
    rw [if_neg (fun hc => nomatch hc), qF_ob q, Option.bind_some, pf_bytes q.1 q.2.1, Option.bind_some, qF_ob1 q, Option.bind_some, po_room q.2.2.1.1 hz, Option.bind_some, pw_map_len]
    unfold pk_fit
    rw [hgd]
    refine ⟨fun hc => ?_, fun hc e => ?_, fun hc e => ?_⟩
    · rw [if_pos hc.2, if_neg (by decide)]
    · rw [if_neg (fun hx => hc ⟨rfl, hx⟩), if_pos rfl, kS_g1 h, Option.bind_some, kS_g0 h, Option.bind_some, kS_len, Option.bind_some, if_pos (tail6 e)]
    · rw [if_neg (fun hx => hc ⟨rfl, hx⟩), if_pos rfl, kS_g1 h, Option.bind_some, kS_g0 h, Option.bind_some, kS_len, Option.bind_some, if_neg (tailn e), kS_ob, Option.bind_some]
      exact kS_new h hF e
end
