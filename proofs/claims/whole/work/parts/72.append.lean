/-! ===== the store appends ===== -/
/-- what appending touches -/
def pw_inA (b : Nat) (sl : List Nat) (a : Nat) : Prop := a = b ∨ a = b + 1 ∨ pw_inD (b + 105) a ∨ ∃ f, f ∈ sl ∧ pw_in f a
/-- a file with a record more -/
def pt_app (t : qf) (time k x v : Nat) (value : Int64) : qf := (t.1, t.2.1 ++ pn_rec time k (lN x) v value, t.2.2.1, t.2.2.2.1, t.2.2.2.2 ++ [(t.2.1.length, k, x, v)])
theorem isB.ne {b f a : Nat} (hf : isB b f) (h : a < b + 3 ∨ (b + 105 ≤ a ∧ a < b + 109) ∨ b + 211 ≤ a) : ¬ pw_in f a := fun hc => by
  have := hf.at hc
  omega
theorem isB.nA {b f a : Nat} (hf : isB b f) (h : a = b + 1 ∨ a = b + 2) : ¬ (a = b ∨ pw_inD (b + 105) a ∨ pw_in f a) := fun hc => by
  rcases hc with hc | hc | hc
  · omega
  · unfold pw_inD at hc
    omega
  · exact hf.ne (by omega) hc
section
variable {μ μ' : pw_Mem} {s : Option Nat} {b time cnt last made taken af ar : Nat} {cl act : Bool} {sl ou fs : List Nat} {φ : Nat → qf} {P : Nat → Prop} {D : List (Nat × Nat × Nat)}
/-- a record is appended to the file f, and entered -/
theorem kA_app (hA : kA μ b time cl) (hE : kE μ b D) (hF : kF μ b φ) (ok : dOK φ fs D) (hb : ∀ f ∈ fs, isB b f) (hv : ∀ f, isB b f → qV (φ f)) {f : Nat} (hf : isB b f) (hc : (φ f).2.2.2.2.length < 11) (hD : D.length < 66)
    (ht : time < 65536) {k x v : Nat} (h1 : 1 ≤ k) (h4 : k ≤ 4) (hx : x < 2 ^ (8 * k)) (hvv : v ≤ 8 ∨ v = 255) (value : Int64) (hr : (φ f).2.1.length + pn_len k v ≤ 100) :
    ∃ μ', ((aw_gR (s, pw_lay (pw_σ b) μ) (some b) 0 1).bind fun v6 =>
    (aw_gI (s, pw_lay (pw_σ b) μ) (some b) 0 3).bind fun v7 =>
    (aw_obj (s, pw_lay (pw_σ b) μ) (some f) 6).bind fun v8 =>
    (f_F_append (s, pw_lay (pw_σ b) μ) (some f) v7 (lN (pn_rank k x)) value (nI v)).bind fun v9 =>
    (aw_obj v9.2 v6 1).bind fun v10 =>
    (f_D_enter v9.2 v6 v9.1).bind fun v11 =>
    (aw_gI v11 (some b) 0 3).bind fun v12 =>
    (aw_pV v11 (some b) 0 3 (.int ((v12 + (1 : Int32)) &&& (65535 : Int32)))).bind fun v13 =>
    some ((.inl (), v13) : (Unit ⊕ String) × aw_W)) = some (.inl (), (s, pw_lay (pw_σ b) μ')) ∧ kA μ' b ((time + 1) % 65536) cl ∧ kE μ' b (pe_en (pn_rank k x) (f, (φ f).2.2.2.2.length) (decide (v = 255)) D) ∧ kF μ' b (pu φ f (pt_app (φ f) time k x v value)) ∧ pw_fr μ μ' (fun a => a = b ∨ pw_inD (b + 105) a ∨ pw_in f a) := by
  have q := hF f hf
  have hrk : pn_rank k x < 2 ^ 62 := Nat.lt_trans (pn_rank_lt h1 h4 hx) (by decide)
  have kd := kD_of hE hF ok hb hv
  obtain ⟨μ1, e1, q1, g1⟩ := qF_append (s := s) q (hv f hf).1 hc (time := time) (by omega) h1 h4 hx hvv value hr
  have n1 : ∀ a, a = b ∨ pw_inD (b + 105) a → ¬ pw_in f a := fun a ha hc => by
    have := hf.at hc
    unfold pw_inD at ha
    omega
  have hA1 := hA.fr g1 (n1 _ (Or.inl rfl))
  have kd1 : kD (pw_σ b) μ1 (b + 105) (D.map fun e => (e.1, ad e.2)) := by
    refine kd.fr g1 (n1 _ (Or.inr (Or.inl rfl))) (n1 _ (Or.inr (Or.inr rfl))) (fun e he => ?_)
    obtain ⟨e0, he0, rfl⟩ := List.mem_map.mp he
    obtain ⟨c1, r, c2, c3⟩ := ok e0 he0
    have hB0 := hb _ c1
    have o1 := ((hF _ hB0).2.2.2.2.2.2.2.2 _ r c2).2.2.1
    show μ1.2.1 (e0.2.1 + 6 + e0.2.2) 2 = μ.2.1 (e0.2.1 + 6 + e0.2.2) 2
    rw [o1]
    by_cases he : e0.2.1 = f
    · rw [he] at c2 ⊢
      exact (q1.2.2.2.2.2.2.2.2 e0.2.2 r (by
        show ((φ f).2.2.2.2 ++ [_])[e0.2.2]? = _
        rw [List.getElem?_append_left (List.getElem?_eq_some_iff.mp c2).1]
        exact c2)).2.2.1
    · exact (((hF _ hB0).off g1 (hB0.ap hf he)).2.2.2.2.2.2.2.2 _ r c2).2.2.1
  have hrec := q1.2.2.2.2.2.2.2.2 (φ f).2.2.2.2.length ((φ f).2.1.length, k, x, v) (by
    show ((φ f).2.2.2.2 ++ [_])[(φ f).2.2.2.2.length]? = _
    rw [List.getElem?_append_right (Nat.le_refl _), Nat.sub_self]
    rfl)
  obtain ⟨μ2, e2, q2, g2⟩ := kD_enter (s := s) kd1 (r := f + 6 + (φ f).2.2.2.2.length) (x := pn_rank k x) (v := v) (q1.1.2.2.2.2.2.2 _ hc) hrk hrec.2.2.1 hrec.2.2.2 (by omega) (Or.inl (by rw [List.length_map]; exact hD))
  have n2 : ¬ pw_inD (b + 105) b := fun hc => by unfold pw_inD at hc; omega
  have hA2 := hA1.fr g2 n2
  obtain ⟨μ3, e3, hA3, g3⟩ := kA_p3 (s := s) hA2 ((time + 1) % 65536)
  have f1 := hF.upd hf g1 q1
  have f2 := f1.fr g2 (fun a ha hc => by unfold pw_inD at hc; omega)
  have f3 := f2.fr g3 (fun a ha hc => by omega)
  refine ⟨μ3, ?_, hA3, ?_, f3, ((g1.mono (fun a ha => Or.inr (Or.inr ha))).trans (g2.mono (fun a ha => Or.inr (Or.inl ha)))).trans (g3.mono (fun a ha => Or.inl ha))⟩
  · rw [kA_g1 hA, Option.bind_some, kA_g3 hA, Option.bind_some, qF_ob q, Option.bind_some, e1]
    simp only [Option.bind_some]
    rw [kD_ob, Option.bind_some, e2, Option.bind_some, kA_g3 hA2, Option.bind_some, nI_1, nI_65535, e3]
    rfl
  · have e9 : pe_en (pn_rank k x) (f + 6 + (φ f).2.2.2.2.length) (decide (v = 255)) (D.map fun e => (e.1, ad e.2)) = (pe_en (pn_rank k x) (f, (φ f).2.2.2.2.length) (decide (v = 255)) D).map fun e => (e.1, ad e.2) := pe_en_map ad (pn_rank k x) (f, (φ f).2.2.2.2.length) (decide (v = 255)) D
    rw [e9] at q2
    have q3 := q2.1.fr g3 (by omega) (by omega)
    rw [List.map_map] at q3
    exact q3
/-- the file that a record is appended to, and the files then -/
noncomputable def pk_tgt (φ : Nat → qf) (sl : List Nat) (cnt : Nat) (act : Bool) (last z : Nat) : Nat × (Nat → qf) × Nat × Nat := match Classical.propDecidable (pk_fit φ sl cnt act z) with
  | .isTrue _ => (sl.getD (cnt - 1) 0, φ, cnt, last)
  | .isFalse _ => (sl.getD cnt 0, pu_new φ sl cnt act last, cnt + 1, last + 1)
theorem pk_tgt_fit {z : Nat} (h : pk_fit φ sl cnt act z) : pk_tgt φ sl cnt act last z = (sl.getD (cnt - 1) 0, φ, cnt, last) := by
  unfold pk_tgt
  split
  · rfl
  · next hn _ => exact absurd h hn
theorem pk_tgt_new {z : Nat} (h : ¬ pk_fit φ sl cnt act z) : pk_tgt φ sl cnt act last z = (sl.getD cnt 0, pu_new φ sl cnt act last, cnt + 1, last + 1) := by
  unfold pk_tgt
  split
  · next hn _ => exact absurd hn h
  · rfl
theorem kS_getD (h : kS μ b sl cnt act last) {i : Nat} (hi : i < 6) : sl[i]? = some (sl.getD i 0) ∧ sl.getD i 0 ∈ sl ∧ isB b (sl.getD i 0) := by
  have h5 := h.2.2.2.2.1
  have e : sl.getD i 0 = sl[i] := by
    unfold List.getD
    rw [List.getElem?_eq_getElem (by omega)]
    rfl
  rw [e]
  exact ⟨List.getElem?_eq_getElem (by omega), List.getElem_mem _, h.2.2.2.2.2.2.2.2 _ (List.getElem_mem _)⟩
theorem kA_append (hA : kA μ b time cl) (hS : kS μ b sl cnt act last) (hE : kE μ b D) (hF : kF μ b φ) {k x v : Nat} (h1 : 1 ≤ k) (h4 : k ≤ 4) (hx : x < 2 ^ (8 * k)) (hvv : v ≤ 8 ∨ v = 255) (value : Int64)
    (hv : ∀ f, isB b f → qV (φ f)) (hb : ∀ f ∈ fs, isB b f) (ok : dOK φ fs D) (hD : pk_fit φ sl cnt act (pn_len k v) ∨ cnt < 6 → D.length < 66) (ht : time < 65536)
    (hnew : ∀ f, sl.getD cnt 0 = f → ¬ f ∈ fs) (hch : act = true → (φ (sl.getD (cnt - 1) 0)).2.1.length + pn_len k v ≤ 100 → (φ (sl.getD (cnt - 1) 0)).2.2.2.2.length < 11) :
    (¬ pk_fit φ sl cnt act (pn_len k v) → cnt = 6 → f_A_append (s, pw_lay (pw_σ b) μ) (some b) (lN (pn_rank k x)) value (nI v) = some (.inr "java/lang/UnsupportedOperationException", (none, pw_lay (pw_σ b) μ))) ∧
    (pk_fit φ sl cnt act (pn_len k v) ∨ cnt < 6 → ∃ μ', f_A_append (s, pw_lay (pw_σ b) μ) (some b) (lN (pn_rank k x)) value (nI v) = some (.inl (), (s, pw_lay (pw_σ b) μ')) ∧ kA μ' b ((time + 1) % 65536) cl ∧ kS μ' b sl (pk_tgt φ sl cnt act last (pn_len k v)).2.2.1 true (pk_tgt φ sl cnt act last (pn_len k v)).2.2.2 ∧
      kE μ' b (pe_en (pn_rank k x) ((pk_tgt φ sl cnt act last (pn_len k v)).1, ((pk_tgt φ sl cnt act last (pn_len k v)).2.1 (pk_tgt φ sl cnt act last (pn_len k v)).1).2.2.2.2.length) (decide (v = 255)) D) ∧
      kF μ' b (pu (pk_tgt φ sl cnt act last (pn_len k v)).2.1 (pk_tgt φ sl cnt act last (pn_len k v)).1 (pt_app ((pk_tgt φ sl cnt act last (pn_len k v)).2.1 (pk_tgt φ sl cnt act last (pn_len k v)).1) time k x v value)) ∧ pw_fr μ μ' (pw_inA b sl)) := by
  have hlen := pn_len_le h4 hvv
  obtain ⟨r1, r2, r3⟩ := kS_room (s := s) hS hF (z := pn_len k v) (by omega)
  have head : ∀ F : (Option Nat × aw_W) → Option ((Unit ⊕ String) × aw_W), ((aw_gR (s, pw_lay (pw_σ b) μ) (some b) 0 0).bind fun v1 => (f_K_size (s, pw_lay (pw_σ b) μ) (lN (pn_rank k x))).bind fun v2 => (f_Y_recordBytes (s, pw_lay (pw_σ b) μ) v2 (nI v)).bind fun v3 => (aw_obj (s, pw_lay (pw_σ b) μ) v1 5).bind fun _ => (f_S_withRoomFor (s, pw_lay (pw_σ b) μ) v1 v3).bind F) = (f_S_withRoomFor (s, pw_lay (pw_σ b) μ) (some (b + 1)) (nI (pn_len k v))).bind F := by
    intro F
    rw [kA_g0 hA, Option.bind_some, pk_size (by omega), Option.bind_some, pk_recordBytes (by omega), Option.bind_some, kS_ob, Option.bind_some]
  refine ⟨fun nf c6 => ?_, fun hcase => ?_⟩
  · unfold f_A_append
    rw [head, r2 nf c6]
    simp only [Option.bind_some, if_true]
  · by_cases hfit : pk_fit φ sl cnt act (pn_len k v)
    · have hact := hfit.1
      have hpos := hS.2.2.2.2.2.2.1 hact
      have h6 := hS.2.2.2.2.2.1
      obtain ⟨z1, z2, z3⟩ := kS_getD hS (i := cnt - 1) (by omega)
      obtain ⟨μ', e, a1, a2, a3, a4⟩ := kA_app (s := s) hA hE hF ok hb hv z3 (hch hact hfit.2) (hD hcase) ht h1 h4 hx hvv value hfit.2
      rw [pk_tgt_fit hfit]
      refine ⟨μ', ?_, a1, ?_, a2, a3, a4.mono (fun a ha => ?_)⟩
      · unfold f_A_append
        rw [head, r1 hfit]
        simp only [Option.bind_some]
        rw [if_neg (fun hc => nomatch hc)]
        exact e
      · have := hS.fr a4 (z3.nA (by omega)) (z3.nA (by omega))
        rw [hact] at this
        exact this
      · rcases ha with ha | ha | ha
        · exact Or.inl ha
        · exact Or.inr (Or.inr (Or.inl ha))
        · exact Or.inr (Or.inr (Or.inr ⟨_, z2, ha⟩))
    · have c6 : cnt < 6 := hcase.elim (fun h => absurd h hfit) id
      obtain ⟨z1, z2, z3⟩ := kS_getD hS (i := cnt) c6
      obtain ⟨μ1, e1, s1, f1, g1⟩ := r3 hfit c6
      have hn : ∀ a, (a = b ∨ a = b + 105 ∨ a = b + 106) → ¬ (a = b + 1 ∨ ∃ f, f ∈ sl ∧ pw_in f a) := by
        intro a ha hc
        rcases hc with hc | ⟨f, hf, hc⟩
        · omega
        · have := (hS.2.2.2.2.2.2.2.2 f hf).at hc
          omega
      have hA1 := hA.fr g1 (hn _ (Or.inl rfl))
      have hE1 := hE.fr g1 (hn _ (Or.inr (Or.inl rfl))) (hn _ (Or.inr (Or.inr rfl)))
      have hnew2 := hnew _ rfl
      have hφ : ∀ f, f ≠ sl.getD cnt 0 → (pu_new φ sl cnt act last f).2.2.2.2 = (φ f).2.2.2.2 ∧ (pu_new φ sl cnt act last f).2.1 = (φ f).2.1 := by
        intro f hf
        unfold pu_new pu_sync
        rw [pu_ne hf]
        split
        · by_cases h9 : f = sl.getD (cnt - 1) 0
          · rw [h9, pu_at]
            exact ⟨rfl, rfl⟩
          · rw [pu_ne h9]
            exact ⟨rfl, rfl⟩
        · exact ⟨rfl, rfl⟩
      have ok1 : dOK (pu_new φ sl cnt act last) fs D := fun e he => by
        obtain ⟨c1, r, c2, c3⟩ := ok e he
        refine ⟨c1, r, ?_, c3⟩
        rw [(hφ _ (fun h9 => hnew2 (h9 ▸ c1))).1]
        exact c2
      have hv1 : ∀ f, isB b f → qV (pu_new φ sl cnt act last f) := by
        intro f hf
        by_cases h8 : f = sl.getD cnt 0
        · unfold pu_new
          rw [h8, pu_at]
          exact ⟨fun _ h => (nomatch h), fun _ h => (nomatch h), Or.inl rfl, Nat.le_refl _, fun _ h => (nomatch h)⟩
        · unfold pu_new pu_sync
          rw [pu_ne h8]
          split
          · by_cases h9 : f = sl.getD (cnt - 1) 0
            · rw [h9, pu_at]
              rw [h9] at hf
              obtain ⟨w1, w2, w3, w4, w5⟩ := hv _ hf
              exact ⟨w1, w2, w3, Nat.le_refl _, w5⟩
            · rw [pu_ne h9]
              exact hv f hf
          · exact hv f hf
      have hnil : pu_new φ sl cnt act last (sl.getD cnt 0) = (last + 1, [], 0, [], []) := pu_at
      obtain ⟨μ', e, a1, a2, a3, a4⟩ := kA_app (s := s) hA1 hE1 f1 ok1 hb hv1 z3 (by rw [hnil]; exact (by decide : 0 < 11)) (hD hcase) ht h1 h4 hx hvv value (by rw [hnil]; show 0 + pn_len k v ≤ 100; omega)
      rw [pk_tgt_new hfit]
      refine ⟨μ', ?_, a1, ?_, a2, a3, (g1.mono (fun a ha => ?_)).trans (a4.mono (fun a ha => ?_))⟩
      · unfold f_A_append
        rw [head, e1]
        simp only [Option.bind_some]
        rw [if_neg (fun hc => nomatch hc)]
        exact e
      · exact s1.fr a4 (z3.nA (by omega)) (z3.nA (by omega))
      · rcases ha with ha | ha
        · exact Or.inr (Or.inl ha)
        · exact Or.inr (Or.inr (Or.inr ha))
      · rcases ha with ha | ha | ha
        · exact Or.inl ha
        · exact Or.inr (Or.inr (Or.inl ha))
        · exact Or.inr (Or.inr (Or.inr ⟨_, z2, ha⟩))
end
