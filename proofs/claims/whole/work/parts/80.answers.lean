/-! ===== the store's answers: ranges, keys, a key, a value ===== -/
def KR (μ : pw_Mem) (b : Nat) (φ : Nat → qf) (sl : List Nat) (cnt : Nat) (act : Bool) (last time : Nat) (cl : Bool) (D : List (Nat × Nat × Nat)) (ou : List Nat) (made taken af ar : Nat) (src : Nat → Nat → Nat × Nat) : Prop :=
  kA μ b time cl ∧ kS μ b sl cnt act last ∧ kE μ b D ∧ kF μ b φ ∧ kG μ b ou made taken af ar ∧ (0 < taken → kX μ ou (φ, made, af, ar, src))
theorem rg_ok {w : aw_W} {p lo hi : Int32} (h1 : ¬ p < lo) (h2 : p ≤ hi) : f_A_checkRange w p lo hi = some (.inl (), w) := by
  unfold f_A_checkRange
  rw [if_neg h1, if_pos h2]
theorem rg_no {w : aw_W} {p lo hi : Int32} (h : p < lo ∨ ¬ p ≤ hi) : f_A_checkRange w p lo hi = some (.inr "java/lang/IllegalArgumentException", (none, w.2)) := by
  unfold f_A_checkRange
  by_cases h1 : p < lo
  · rw [if_pos h1]
  · rw [if_neg h1, if_neg (h.elim (fun h => absurd h h1) id)]
theorem rg_14 {w : aw_W} {k : Nat} (h1 : 1 ≤ k) (h4 : k ≤ 4) : f_A_checkRange w (nI k) 1 4 = some (.inl (), w) := rg_ok (show ¬ nI k < 1 from nI_nlt (b := 1) h1 (by omega)) (show nI k ≤ 4 from nI_le (b := 4) h4 (by decide))
theorem rg_nat {p : Int32} {lo hi : Nat} (h1 : ¬ p < nI lo) (h2 : p ≤ nI hi) (hlo : lo ≤ hi) (hh : hi < 2 ^ 31) : ∃ k, lo ≤ k ∧ k ≤ hi ∧ p = nI k := by
  have h0 : ¬ p < 0 := fun hc => h1 (by
    rw [Int32.lt_iff_toInt_lt] at hc ⊢
    rw [nI_toInt (by omega)]
    have : (0 : Int32).toInt = 0 := by decide
    omega)
  obtain ⟨k, hk, rfl⟩ := nI_of h0
  refine ⟨k, ?_, (nI_leI hk hh).mp h2, rfl⟩
  apply Classical.byContradiction
  intro hc
  exact h1 (nI_lt (by omega) (by omega))
section
variable {μ : pw_Mem} {s : Option Nat} {b : Nat} {φ : Nat → qf} {sl : List Nat} {cnt : Nat} {act : Bool} {last time : Nat} {cl : Bool} {D : List (Nat × Nat × Nat)} {ou fs : List Nat} {made taken af ar : Nat} {src : Nat → Nat → Nat × Nat}
theorem kO_ok (h : kA μ b time false) : f_A_checkOpen (s, pw_lay (pw_σ b) μ) (some b) = some (.inl (), (s, pw_lay (pw_σ b) μ)) := by
  unfold f_A_checkOpen
  rw [kA_g4 h, Option.bind_some]
  exact if_pos rfl
theorem kO_no (h : kA μ b time true) : f_A_checkOpen (s, pw_lay (pw_σ b) μ) (some b) = some (.inr "java/lang/IllegalStateException", (none, pw_lay (pw_σ b) μ)) := by
  unfold f_A_checkOpen
  rw [kA_g4 h, Option.bind_some]
  exact if_neg (by decide)
/-- an answer is laid down -/
theorem aL_put (x : Int64) : aw_sL (s, pw_lay (pw_σ b) μ) (some (b + 229)) 2 (0 : Int32) x = some (s, pw_lay (pw_σ b) (pw_sL μ (b + 229) 0 x)) := by
  rw [pw_sL_2, pw_aa_of (pw_σ_at b 229)]
  simp only [Option.bind_some]
  rw [show (0 : Int32) = nI 0 from rfl, aw_ix_nI (by decide) (by decide)]
  rfl
theorem L_keys (hA : kA μ b time cl) (hE : kE μ b D) : f_L_keys (s, pw_lay (pw_σ b) μ) (some b) (some (b + 229)) = some (if cl then (1, (none, pw_lay (pw_σ b) μ)) else (0, (s, pw_lay (pw_σ b) (pw_sL μ (b + 229) 0 (nI D.length).toInt64)))) := by
  unfold f_L_keys f_A_keys
  rw [kA_ob, Option.bind_some]
  cases cl with
  | true =>
    rw [kO_no hA]
    simp only [Option.bind_some, if_true]
  | false =>
    have := pd_count (s := s) hE
    rw [List.length_map] at this
    rw [kO_ok hA]
    simp only [Option.bind_some, kA_g1 hA, kD_ob, this]
    rw [aL_put]
    simp only [Option.bind_some, Bool.false_eq_true, if_false]
/-- what a key's row tells -/
def pk_key (φ : Nat → qf) (e : Nat × Nat × Nat) (what : Int32) : Int64 :=
  if what = 0 then (nI ((φ e.2.1).2.2.2.2.getD e.2.2 (0, 0, 0, 0)).2.1).toInt64 else if what = 1 then lN ((φ e.2.1).2.2.2.2.getD e.2.2 (0, 0, 0, 0)).2.2.1 else if what = 2 then (nI (φ e.2.1).1).toInt64 else (nI ((φ e.2.1).2.2.2.2.getD e.2.2 (0, 0, 0, 0)).1).toInt64
theorem kE_row (hE : kE μ b D) (k : Int32) : f_D_at (s, pw_lay (pw_σ b) μ) (some (b + 105)) k = some (if k < 0 then none else (D[k.toNatClampNeg]?).map fun e => ad e.2) := by
  by_cases h : k < 0
  · unfold f_D_at
    rw [if_pos h, if_pos h]
    rfl
  · obtain ⟨j, hj, rfl⟩ := nI_of h
    rw [if_neg h, nI_clamp hj, pd_at hE hj, List.getElem?_map]
theorem L_key_bad {p1 p2 : Int32} (h : p2 < 0 ∨ ¬ p2 ≤ 3) : f_L_key (s, pw_lay (pw_σ b) μ) (some b) p1 p2 (some (b + 229)) = some (1, (none, pw_lay (pw_σ b) μ)) := by
  unfold f_L_key f_A_key
  rw [kA_ob, Option.bind_some, rg_no h]
  simp only [Option.bind_some, if_true]
theorem L_key_cl (hA : kA μ b time true) {p1 p2 : Int32} (h1 : ¬ p2 < 0) (h2 : p2 ≤ 3) : f_L_key (s, pw_lay (pw_σ b) μ) (some b) p1 p2 (some (b + 229)) = some (2, (none, pw_lay (pw_σ b) μ)) := by
  unfold f_L_key f_A_key
  rw [kA_ob, Option.bind_some, rg_ok h1 h2]
  simp only [Option.bind_some, kA_ob]
  rw [kO_no hA]
  simp only [Option.bind_some]
  rw [if_neg (by decide), if_pos trivial]
theorem L_key_no (hA : kA μ b time false) (hE : kE μ b D) {p1 p2 : Int32} (h1 : ¬ p2 < 0) (h2 : p2 ≤ 3) (hk : p1 < 0 ∨ D[p1.toNatClampNeg]? = none) : f_L_key (s, pw_lay (pw_σ b) μ) (some b) p1 p2 (some (b + 229)) = some (3, (none, pw_lay (pw_σ b) μ)) := by
  have e0 : f_D_at (s, pw_lay (pw_σ b) μ) (some (b + 105)) p1 = some none := by
    rw [kE_row hE]
    by_cases c : p1 < 0
    · rw [if_pos c]
    · rw [if_neg c, hk.elim (fun h => absurd h c) id]
      rfl
  unfold f_L_key f_A_key
  rw [kA_ob, Option.bind_some, rg_ok h1 h2]
  simp only [Option.bind_some, kA_ob]
  rw [kO_ok hA]
  simp only [Option.bind_some, kA_g1 hA, kD_ob, e0]
  rw [if_pos trivial]
  simp only [Option.bind_some]
  rw [if_neg (by decide), if_neg (by decide), if_pos trivial]
theorem L_key_ok (hA : kA μ b time false) (hE : kE μ b D) (hF : kF μ b φ) (ok : dOK φ fs D) (hb : ∀ f ∈ fs, isB b f) (hv : ∀ f, isB b f → qV (φ f)) {p1 p2 : Int32} (h1 : ¬ p2 < 0) (h2 : p2 ≤ 3) (hk : ¬ p1 < 0) {e : Nat × Nat × Nat} (he : D[p1.toNatClampNeg]? = some e) : f_L_key (s, pw_lay (pw_σ b) μ) (some b) p1 p2 (some (b + 229)) = some (0, (s, pw_lay (pw_σ b) (pw_sL μ (b + 229) 0 (pk_key φ e p2)))) := by
  have e0 : f_D_at (s, pw_lay (pw_σ b) μ) (some (b + 105)) p1 = some (some (e.2.1 + 6 + e.2.2)) := by
    rw [kE_row hE, if_neg hk, he]
    rfl
  obtain ⟨c1, r, c2, c3⟩ := ok e (List.mem_of_getElem? he)
  have hB := hb _ c1
  have hgd : (φ e.2.1).2.2.2.2.getD e.2.2 (0, 0, 0, 0) = r := by unfold List.getD; rw [c2]; rfl
  have hi := (List.getElem?_eq_some_iff.mp c2).1
  have q := hF _ hB
  have h11 := q.2.2.2.2.2.2.2.1
  have hrV := (hv _ hB).2.2.2.2 r (List.mem_of_getElem? c2)
  obtain ⟨g1, g2, g3, g4, g5⟩ := qF_gr (s := s) q (i := e.2.2) c2 (by have := hrV.2.1; omega)
  unfold f_L_key f_A_key
  rw [kA_ob, Option.bind_some, rg_ok h1 h2]
  simp only [Option.bind_some, kA_ob]
  rw [kO_ok hA]
  simp only [Option.bind_some, kA_g1 hA, kD_ob, e0]
  rw [if_neg (fun hc => nomatch hc)]
  unfold pk_key
  rw [hgd]
  by_cases w0 : p2 = 0
  · rw [if_pos w0, if_pos w0, g3]
    simp only [Option.bind_some]
    rw [pk_size (by have := hrV.2.1; omega)]
    simp only [Option.bind_some]
    rw [aL_put]
    rfl
  · rw [if_neg w0, if_neg w0]
    by_cases w1 : p2 = 1
    · rw [if_pos w1, if_pos w1, g3]
      simp only [Option.bind_some]
      rw [pk_number hrV.1 hrV.2.1 hrV.2.2.1]
      simp only [Option.bind_some]
      rw [aL_put]
      rfl
    · rw [if_neg w1, if_neg w1]
      by_cases w2 : p2 = 2
      · have hfn : f_R_fileNumber (s, pw_lay (pw_σ b) μ) (some (e.2.1 + 6 + e.2.2)) = some (nI (φ e.2.1).1) := by
          unfold f_R_fileNumber
          rw [g5, Option.bind_some, if_neg (fun hc => nomatch hc), Option.bind_some, qF_ob q, Option.bind_some, pf_number q.1, q.2.2.2.2.1]
          rfl
        rw [if_pos w2, if_pos w2, qF_rob q (by omega)]
        simp only [Option.bind_some, hfn]
        rw [aL_put]
        rfl
      · rw [if_neg w2, if_neg w2, g1]
        simp only [Option.bind_some]
        rw [aL_put]
        rfl
/-- is the record r of the file t right? -/
abbrev pk_right (t : qf) (r : qr) : Prop := pn_num (fun i => t.2.1.getD i 0) r.1 4 = pn_sum (fun i => t.2.1.getD i 0) (r.1 + 4) (pn_len r.2.1 r.2.2.2 - 4)
/-- its value -/
def pk_val (t : qf) (r : qr) : Nat := pn_num (fun i => t.2.1.getD i 0) (r.1 + 8 + r.2.1) (if r.2.2.2 = 255 then 0 else r.2.2.2)
theorem L_get_bad {key : Int64} {p : Int32} (h : p < 1 ∨ ¬ p ≤ 4) : f_L_get (s, pw_lay (pw_σ b) μ) (some b) key p (some (b + 229)) = some (1, (none, pw_lay (pw_σ b) μ)) := by
  unfold f_L_get f_A_get
  rw [kA_ob, Option.bind_some, rg_no h]
  simp only [Option.bind_some, if_true]
theorem L_get_cl (hA : kA μ b time true) {key : Int64} {k : Nat} (h1 : 1 ≤ k) (h4 : k ≤ 4) : f_L_get (s, pw_lay (pw_σ b) μ) (some b) key (nI k) (some (b + 229)) = some (2, (none, pw_lay (pw_σ b) μ)) := by
  unfold f_L_get f_A_get
  rw [kA_ob, Option.bind_some, rg_14 h1 h4]
  simp only [Option.bind_some, kA_ob]
  rw [kO_no hA]
  simp only [Option.bind_some]
  rw [if_neg (by decide), if_pos trivial]
theorem L_get_op (hA : kA μ b time false) (hE : kE μ b D) (hF : kF μ b φ) (ok : dOK φ fs D) (hb : ∀ f ∈ fs, isB b f) (hv : ∀ f, isB b f → qV (φ f)) {key : Int64} {k : Nat} (h1 : 1 ≤ k) (h4 : k ≤ 4) :
    (pe_find (pn_rank k (pn_cut key k)) D = none → f_L_get (s, pw_lay (pw_σ b) μ) (some b) key (nI k) (some (b + 229)) = some (3, (none, pw_lay (pw_σ b) μ))) ∧
    (∀ q r, pe_find (pn_rank k (pn_cut key k)) D = some q → (φ q.1).2.2.2.2[q.2]? = some r → (pk_right (φ q.1) r → f_L_get (s, pw_lay (pw_σ b) μ) (some b) key (nI k) (some (b + 229)) = some (0, (s, pw_lay (pw_σ b) (pw_sL μ (b + 229) 0 (lN (pk_val (φ q.1) r)))))) ∧ (¬ pk_right (φ q.1) r → f_L_get (s, pw_lay (pw_σ b) μ) (some b) key (nI k) (some (b + 229)) = some (4, (none, pw_lay (pw_σ b) μ)))) := by
  have hx : pn_rank k (pn_cut key k) < 2 ^ 62 := Nat.lt_trans (pn_rank_lt h1 h4 (pn_cut_lt key k)) (by decide)
  have kd := kD_of hE hF ok hb hv
  have hfind := kD_find (s := s) kd hx
  rw [pe_find_map] at hfind
  refine ⟨fun hn => ?_, fun q r hq hr => ?_⟩
  · rw [hn] at hfind
    have hfind' : f_D_find (s, pw_lay (pw_σ b) μ) (some (b + 105)) (lN (pn_rank k (pn_cut key k))) = some none := hfind
    unfold f_L_get f_A_get
    rw [kA_ob, Option.bind_some, rg_14 h1 h4]
    simp only [Option.bind_some, kA_ob]
    rw [kO_ok hA]
    simp only [Option.bind_some, kA_g1 hA, pk_rank key h1 h4, kD_ob, hfind']
    rw [if_pos trivial]
    simp only [Option.bind_some]
    rw [if_neg (by decide), if_neg (by decide), if_pos trivial]
  · rw [hq] at hfind
    have hfind' : f_D_find (s, pw_lay (pw_σ b) μ) (some (b + 105)) (lN (pn_rank k (pn_cut key k))) = some (some (q.1 + 6 + q.2)) := hfind
    obtain ⟨c1, -⟩ := ok _ (pe_find_in hq)
    have hB : isB b q.1 := hb _ c1
    have Q := hF _ hB
    have h11 := Q.2.2.2.2.2.2.2.1
    have hi := (List.getElem?_eq_some_iff.mp hr).1
    have hrV := (hv _ hB).2.2.2.2 r (List.mem_of_getElem? hr)
    have hBB := (hv _ hB).1
    obtain ⟨g1, g2, g3, g4, g5⟩ := qF_gr (s := s) Q (i := q.2) hr (by have := hrV.2.1; omega)
    have hlen := pn_len_le hrV.2.1 hrV.2.2.2.1
    have hge := pn_len_ge r.2.1 r.2.2.2
    have h100 := hrV.2.2.2.2
    have hbr : f_R_isBroken (s, pw_lay (pw_σ b) μ) (some (q.1 + 6 + q.2)) = some (if pk_right (φ q.1) r then 0 else 1) := by
      unfold f_R_isBroken pk_right
      rw [g5, Option.bind_some, if_neg (fun hc => nomatch hc), Option.bind_some, g1, Option.bind_some, qF_rob Q (by omega), Option.bind_some, qF_rsize Q hr hrV, Option.bind_some, qF_ob Q, Option.bind_some, qF_right Q hBB (by omega) (by omega), Option.bind_some]
      by_cases c : pn_num (fun i => (φ q.1).2.1.getD i 0) r.1 4 = pn_sum (fun i => (φ q.1).2.1.getD i 0) (r.1 + 4) (pn_len r.2.1 r.2.2.2 - 4)
      · rw [if_pos c, if_neg (by decide), Option.bind_some, aw_zz_0, if_pos c]
        rfl
      · rw [if_neg c, if_pos rfl, Option.bind_some, aw_zz_1, if_neg c]
        rfl
    have hvl : f_R_value (s, pw_lay (pw_σ b) μ) (some (q.1 + 6 + q.2)) = some (lN (pk_val (φ q.1) r)) := by
      unfold f_R_value pk_val
      rw [g5, Option.bind_some, if_neg (fun hc => nomatch hc), Option.bind_some, qF_ob Q, Option.bind_some, pf_bytes Q.1 Q.2.1, Option.bind_some, g1, Option.bind_some, qF_rob Q (by omega), Option.bind_some, g2, Option.bind_some, g4, Option.bind_some, pk_valueBytes (by have := hrV.2.2.2.1; omega), Option.bind_some, qF_ob1 Q, Option.bind_some, show nI r.1 + (8 : Int32) = nI (r.1 + 8) from nI_add _ 8, nI_add, qF_num Q hBB (by have := hrV.2.2.2.1; have := hrV.2.1; split <;> omega)]
      rfl
    have pre : ∀ code w', (((f_R_isBroken (s, pw_lay (pw_σ b) μ) (some (q.1 + 6 + q.2))).bind fun v11 => if v11 = 0 then (aw_obj (s, pw_lay (pw_σ b) μ) (some (q.1 + 6 + q.2)) 4).bind fun _ => (f_R_value (s, pw_lay (pw_σ b) μ) (some (q.1 + 6 + q.2))).bind fun v13 => some ((.inl v13, (s, pw_lay (pw_σ b) μ)) : (Int64 ⊕ String) × aw_W) else some (.inr "java/lang/UnsupportedOperationException", (none, pw_lay (pw_σ b) μ))).bind fun v2 => match v2.1 with
        | .inl x3 => (aw_sL v2.2 (some (b + 229)) 2 (0 : Int32) x3).bind fun v4 => some ((0 : Int32), v4)
        | .inr E9 => if E9 = "java/lang/IllegalArgumentException" then some ((1 : Int32), v2.2) else if E9 = "java/lang/IllegalStateException" then some ((2 : Int32), v2.2) else if E9 = "java/util/NoSuchElementException" then some ((3 : Int32), v2.2) else if E9 = "java/lang/UnsupportedOperationException" then some ((4 : Int32), v2.2) else none) = some (code, w') → f_L_get (s, pw_lay (pw_σ b) μ) (some b) key (nI k) (some (b + 229)) = some (code, w') := by
      intro code w' h9
      unfold f_L_get f_A_get
      rw [kA_ob, Option.bind_some, rg_14 h1 h4]
      simp only [Option.bind_some, kA_ob]
      rw [kO_ok hA]
      simp only [Option.bind_some, kA_g1 hA, pk_rank key h1 h4, kD_ob, hfind']
      rw [if_neg (fun hc => nomatch hc), qF_rob Q (by omega), Option.bind_some]
      rw [qF_rob Q (by omega)] at h9
      exact h9
    refine ⟨fun hc => pre _ _ ?_, fun hc => pre _ _ ?_⟩
    · rw [hbr, if_pos hc, Option.bind_some, if_pos rfl, qF_rob Q (by omega), Option.bind_some, hvl]
      simp only [Option.bind_some]
      rw [aL_put]
      rfl
    · rw [hbr, if_neg hc, Option.bind_some, if_neg (by decide)]
      simp only [Option.bind_some]
      rw [if_neg (by decide), if_neg (by decide), if_neg (by decide), if_pos trivial]
end
