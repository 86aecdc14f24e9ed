/-! ===== the store's face: put, delete ===== -/
section
variable {μ μ' : pw_Mem} {s : Option Nat} {b : Nat} {φ φ' : Nat → qf} {sl : List Nat} {cnt : Nat} {act : Bool} {last time : Nat} {cl : Bool} {D : List (Nat × Nat × Nat)} {ou fs : List Nat} {made taken af ar : Nat} {src : Nat → Nat → Nat × Nat} {P : Nat → Prop}
theorem L_put_bad {key value : Int64} {p q : Int32} (h : (p < 1 ∨ ¬ p ≤ 4) ∨ (q < 0 ∨ ¬ q ≤ 8)) : f_L_put (s, pw_lay (pw_σ b) μ) (some b) key p value q = some (1, (none, pw_lay (pw_σ b) μ)) := by
  unfold f_L_put f_A_put
  rw [kA_ob, Option.bind_some]
  by_cases c : p < 1 ∨ ¬ p ≤ 4
  · rw [rg_no c]
    simp only [Option.bind_some, if_true]
  · rw [rg_ok (fun h => c (Or.inl h)) (Classical.byContradiction fun h => c (Or.inr h))]
    simp only [Option.bind_some]
    rw [rg_no (h.elim (fun h => absurd h c) id)]
    simp only [Option.bind_some, if_true]
theorem rg_08 {w : aw_W} {v : Nat} (h8 : v ≤ 8) : f_A_checkRange w (nI v) 0 8 = some (.inl (), w) := rg_ok (nI_pos (by omega)) (show nI v ≤ 8 from nI_le (b := 8) h8 (by decide))
theorem L_put_cl (hA : kA μ b time true) {key value : Int64} {k v : Nat} (h1 : 1 ≤ k) (h4 : k ≤ 4) (h8 : v ≤ 8) : f_L_put (s, pw_lay (pw_σ b) μ) (some b) key (nI k) value (nI v) = some (2, (none, pw_lay (pw_σ b) μ)) := by
  unfold f_L_put f_A_put
  rw [kA_ob, Option.bind_some, rg_14 h1 h4]
  simp only [Option.bind_some]
  rw [rg_08 h8]
  simp only [Option.bind_some, kA_ob]
  rw [kO_no hA]
  simp only [Option.bind_some]
  rw [if_neg (by decide), if_pos trivial]
theorem L_put_op (h : KR μ b φ sl cnt act last time false D ou made taken af ar src) (ap : pk_ap sl ou) (hm : 0 < taken → made ≤ 6) (hp : pk_pre b φ sl cnt act time D fs) {key value : Int64} {k v : Nat} (h1 : 1 ≤ k) (h4 : k ≤ 4) (h8 : v ≤ 8) :
    (¬ pk_fit φ sl cnt act (pn_len k v) → cnt = 6 → f_L_put (s, pw_lay (pw_σ b) μ) (some b) key (nI k) value (nI v) = some (3, (none, pw_lay (pw_σ b) μ))) ∧
    (pk_fit φ sl cnt act (pn_len k v) ∨ cnt < 6 → ∃ μ', f_L_put (s, pw_lay (pw_σ b) μ) (some b) key (nI k) value (nI v) = some (0, (s, pw_lay (pw_σ b) μ')) ∧
      KR μ' b (pu (pk_tgt φ sl cnt act last (pn_len k v)).2.1 (pk_tgt φ sl cnt act last (pn_len k v)).1 (pt_app ((pk_tgt φ sl cnt act last (pn_len k v)).2.1 (pk_tgt φ sl cnt act last (pn_len k v)).1) time k (pn_cut key k) v value)) sl (pk_tgt φ sl cnt act last (pn_len k v)).2.2.1 true (pk_tgt φ sl cnt act last (pn_len k v)).2.2.2 ((time + 1) % 65536) false (pe_en (pn_rank k (pn_cut key k)) ((pk_tgt φ sl cnt act last (pn_len k v)).1, ((pk_tgt φ sl cnt act last (pn_len k v)).2.1 (pk_tgt φ sl cnt act last (pn_len k v)).1).2.2.2.2.length) false D) ou made taken af ar src ∧ pw_fr μ μ' (pw_inC b)) := by
  have hA := h.1
  obtain ⟨r1, r2⟩ := A_append_ok (s := s) h ap hm hp h1 h4 (pn_cut_lt key k) (Or.inl h8) value
  have hd : decide (v = 255) = false := by simp; omega
  rw [hd] at r2
  have pre : ∀ X, f_A_append (s, pw_lay (pw_σ b) μ) (some b) (lN (pn_rank k (pn_cut key k))) value (nI v) = X → f_L_put (s, pw_lay (pw_σ b) μ) (some b) key (nI k) value (nI v) = ((X.bind fun v10 => match v10.1 with
        | .inl x11 => some ((.inl (), v10.2) : (Unit ⊕ String) × aw_W)
        | .inr E9 => some (.inr E9, v10.2)).bind fun v2 => match v2.1 with
        | .inl x3 => some ((0 : Int32), v2.2)
        | .inr E9 => if E9 = "java/lang/IllegalArgumentException" then some ((1 : Int32), v2.2) else if E9 = "java/lang/IllegalStateException" then some ((2 : Int32), v2.2) else if E9 = "java/lang/UnsupportedOperationException" then some ((3 : Int32), v2.2) else none) := by
    rintro X rfl
    unfold f_L_put f_A_put
    rw [kA_ob, Option.bind_some, rg_14 h1 h4]
    simp only [Option.bind_some]
    rw [rg_08 h8]
    simp only [Option.bind_some, kA_ob]
    rw [kO_ok hA]
    simp only [Option.bind_some, kA_ob]
    rw [pk_rank key h1 h4, Option.bind_some]
    rfl
  refine ⟨fun nf c6 => ?_, fun hc => ?_⟩
  · rw [pre _ (r1 nf c6)]
    simp only [Option.bind_some]
    rw [if_neg (by decide), if_neg (by decide), if_pos trivial]
  · obtain ⟨μ1, e1, k1, g1⟩ := r2 hc
    rw [pre _ e1]
    exact ⟨μ1, rfl, k1, g1⟩
theorem L_del_bad {key : Int64} {p : Int32} (h : p < 1 ∨ ¬ p ≤ 4) : f_L_delete (s, pw_lay (pw_σ b) μ) (some b) key p (some (b + 229)) = some (1, (none, pw_lay (pw_σ b) μ)) := by
  unfold f_L_delete f_A_delete
  rw [kA_ob, Option.bind_some, rg_no h]
  simp only [Option.bind_some, if_true]
theorem L_del_cl (hA : kA μ b time true) {key : Int64} {k : Nat} (h1 : 1 ≤ k) (h4 : k ≤ 4) : f_L_delete (s, pw_lay (pw_σ b) μ) (some b) key (nI k) (some (b + 229)) = some (2, (none, pw_lay (pw_σ b) μ)) := by
  unfold f_L_delete f_A_delete
  rw [kA_ob, Option.bind_some, rg_14 h1 h4]
  simp only [Option.bind_some, kA_ob]
  rw [kO_no hA]
  simp only [Option.bind_some]
  rw [if_neg (by decide), if_pos trivial]
theorem L_del_op (h : KR μ b φ sl cnt act last time false D ou made taken af ar src) (ap : pk_ap sl ou) (hm : 0 < taken → made ≤ 6) (hp : pk_pre b φ sl cnt act time D fs) {key : Int64} {k : Nat} (h1 : 1 ≤ k) (h4 : k ≤ 4) :
    (pe_find (pn_rank k (pn_cut key k)) D = none → f_L_delete (s, pw_lay (pw_σ b) μ) (some b) key (nI k) (some (b + 229)) = some (0, (s, pw_lay (pw_σ b) (pw_sL μ (b + 229) 0 0)))) ∧
    (pe_find (pn_rank k (pn_cut key k)) D ≠ none → ¬ pk_fit φ sl cnt act (pn_len k 255) → cnt = 6 → f_L_delete (s, pw_lay (pw_σ b) μ) (some b) key (nI k) (some (b + 229)) = some (3, (none, pw_lay (pw_σ b) μ))) ∧
    (pe_find (pn_rank k (pn_cut key k)) D ≠ none → pk_fit φ sl cnt act (pn_len k 255) ∨ cnt < 6 → ∃ μ', f_L_delete (s, pw_lay (pw_σ b) μ) (some b) key (nI k) (some (b + 229)) = some (0, (s, pw_lay (pw_σ b) (pw_sL μ' (b + 229) 0 1))) ∧
      KR μ' b (pu (pk_tgt φ sl cnt act last (pn_len k 255)).2.1 (pk_tgt φ sl cnt act last (pn_len k 255)).1 (pt_app ((pk_tgt φ sl cnt act last (pn_len k 255)).2.1 (pk_tgt φ sl cnt act last (pn_len k 255)).1) time k (pn_cut key k) 255 0)) sl (pk_tgt φ sl cnt act last (pn_len k 255)).2.2.1 true (pk_tgt φ sl cnt act last (pn_len k 255)).2.2.2 ((time + 1) % 65536) false (pe_en (pn_rank k (pn_cut key k)) ((pk_tgt φ sl cnt act last (pn_len k 255)).1, ((pk_tgt φ sl cnt act last (pn_len k 255)).2.1 (pk_tgt φ sl cnt act last (pn_len k 255)).1).2.2.2.2.length) true D) ou made taken af ar src ∧ pw_fr μ μ' (pw_inC b)) := by
  have hA := h.1
  obtain ⟨r1, r2⟩ := A_append_ok (s := s) h ap hm hp h1 h4 (pn_cut_lt key k) (Or.inr rfl) 0
  have hd : decide ((255 : Nat) = 255) = true := by decide
  rw [hd] at r2
  have hx : pn_rank k (pn_cut key k) < 2 ^ 62 := Nat.lt_trans (pn_rank_lt h1 h4 (pn_cut_lt key k)) (by decide)
  obtain ⟨p1, p2, p3, -⟩ := hp
  have kd := kD_of h.2.2.1 h.2.2.2.1 p3 p2 p1
  have hfind := kD_find (s := s) kd hx
  rw [pe_find_map] at hfind
  have pre : f_L_delete (s, pw_lay (pw_σ b) μ) (some b) key (nI k) (some (b + 229)) = (((if (Option.map ad (pe_find (pn_rank k (pn_cut key k)) D)) = none then some ((.inl (0 : Int32), (s, pw_lay (pw_σ b) μ)) : (Int32 ⊕ String) × aw_W) else (f_A_append (s, pw_lay (pw_σ b) μ) (some b) (lN (pn_rank k (pn_cut key k))) 0 255).bind fun v11 => match v11.1 with
        | .inl x12 => some (.inl (1 : Int32), v11.2)
        | .inr E9 => some (.inr E9, v11.2))).bind fun v2 => match v2.1 with
        | .inl x3 => (if x3 = 0 then some (0 : Int64) else some (1 : Int64) : Option Int64).bind fun j4 => (aw_sL v2.2 (some (b + 229)) 2 (0 : Int32) j4).bind fun v5 => some ((0 : Int32), v5)
        | .inr E9 => if E9 = "java/lang/IllegalArgumentException" then some ((1 : Int32), v2.2) else if E9 = "java/lang/IllegalStateException" then some ((2 : Int32), v2.2) else if E9 = "java/lang/UnsupportedOperationException" then some ((3 : Int32), v2.2) else none) := by
    unfold f_L_delete f_A_delete
    rw [kA_ob, Option.bind_some, rg_14 h1 h4]
    simp only [Option.bind_some, kA_ob]
    rw [kO_ok hA]
    simp only [Option.bind_some, kA_ob]
    rw [pk_rank key h1 h4, Option.bind_some, kA_g1 hA, Option.bind_some, kD_ob, Option.bind_some, hfind, Option.bind_some]
    rfl
  have hne : pe_find (pn_rank k (pn_cut key k)) D ≠ none → ¬ (Option.map ad (pe_find (pn_rank k (pn_cut key k)) D)) = none := fun hc h9 => by
    cases hq : pe_find (pn_rank k (pn_cut key k)) D with
    | none => exact hc hq
    | some q => rw [hq] at h9; cases h9
  refine ⟨fun hc => ?_, fun hc nf c6 => ?_, fun hc hcase => ?_⟩
  · rw [pre, hc, if_pos (show Option.map ad none = none from rfl)]
    simp only [Option.bind_some, if_true]
    rw [aL_put]
    rfl
  · have := r1 nf c6
    rw [pre, if_neg (hne hc), show (255 : Int32) = nI 255 from rfl, this]
    simp only [Option.bind_some]
    rw [if_neg (by decide), if_neg (by decide), if_pos trivial]
  · obtain ⟨μ1, e1, k1, g1⟩ := r2 hcase
    refine ⟨μ1, ?_, k1, g1⟩
    rw [pre, if_neg (hne hc), show (255 : Int32) = nI 255 from rfl, e1]
    simp only [Option.bind_some]
    rw [if_neg (by decide)]
    simp only [Option.bind_some]
    rw [aL_put]
    rfl
end
