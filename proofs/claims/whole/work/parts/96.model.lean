/-! ===== the reference's answers ===== -/
section
variable {I I' : mN} {L L' : mL} {ρ : mQ} {s : Option Nat} {b : Nat} {φ φ' : Nat → qf} {sl : List Nat} {cnt : Nat} {act : Bool} {last time : Nat} {cl : Bool} {D : List (Nat × Nat × Nat)} {ou : List Nat} {made taken af ar : Nat} {src : Nat → Nat → Nat × Nat}
/-- the numbers of the files are apart -/
def pk_nums (φ : Nat → qf) (sl : List Nat) (cnt : Nat) : Prop := ∀ i, i < cnt → (φ (sl.getD i 0)).1 < 2 ^ 19 ∧ ∀ j, j < cnt → (φ (sl.getD j 0)).1 = (φ (sl.getD i 0)).1 → j = i
theorem M_keys_ok (h : MR I L b φ sl cnt act last time cl D ou made taken af ar src) : f_M_keys (s, pw_lay (pw_σ b) (I, L, ρ)) (some (b + 211)) = some (if cl then (0, (s, pw_lay (pw_σ b) (uI I (b + 211) 0 1, L, ρ))) else (nI D.length, (s, pw_lay (pw_σ b) (uI I (b + 211) 0 0, L, ρ)))) := by
  obtain ⟨-, hcl, -, ⟨n, E, hd, hr⟩, -⟩ := h
  unfold f_M_keys
  rw [mf_21, Option.bind_some, hcl]
  cases cl with
  | true =>
    have e10 : ¬ (1 : Int32) = 0 := by decide
    simp only [if_true, if_neg e10, Option.bind_some]
    rw [mw_0, Option.bind_some, mf_21, Option.bind_some, uI_ne (by omega), hcl, if_pos rfl, if_neg (by decide)]
    rfl
  | false =>
    simp only [Bool.false_eq_true, if_false, if_true, Option.bind_some]
    have hcl' : I (b + 211) 21 = 0 := hcl
    rw [mw_0, Option.bind_some, mf_21, Option.bind_some, uI_ne (by omega), hcl', if_pos rfl, mf_15, Option.bind_some, uI_ne (by omega), hd.1, hr.1]
    rfl
theorem M_len (hP : mP b ρ) {i j : Nat} {t : qf} {r : qr} (hw : mW I b i t) (hi : i < 12) (hr : t.2.2.2.2[j]? = some r) (hj : j < 12) (hv : r.2.2.2 < 2 ^ 31) : f_M_length (s, pw_lay (pw_σ b) (I, L, ρ)) (some (b + 211)) (nI i) (nI j) = some (nI (pn_len r.2.1 r.2.2.2)) := by
  obtain ⟨g1, g2, g3⟩ := hw.2.2.2.2.2.2.2 j r hr
  unfold f_M_length
  rw [mg_11 hP, Option.bind_some, nI_12, ma_221 (by omega), Option.bind_some, g2, mg_12 hP, Option.bind_some, ma_222 (by omega), Option.bind_some, g3, pm_lengthOf hv]
  rfl
theorem M_get_bad {key : Int64} {p : Int32} (h : p < 1 ∨ ¬ p ≤ 4) : f_M_get (s, pw_lay (pw_σ b) (I, L, ρ)) (some (b + 211)) key p = some (0, (s, pw_lay (pw_σ b) (uI I (b + 211) 0 1, L, ρ))) := by
  have c : ¬ (¬ p < 1 ∧ p ≤ 4) := fun hc => h.elim hc.1 (fun h => h hc.2)
  unfold f_M_get
  rw [M_in, Option.bind_some, if_neg c, if_pos rfl, Option.bind_some, mw_0, Option.bind_some, mf_0, Option.bind_some, uI_at, if_neg (by decide)]
theorem M_get_cl (h : MR I L b φ sl cnt act last time true D ou made taken af ar src) {key : Int64} {k : Nat} (h1 : 1 ≤ k) (h4 : k ≤ 4) : f_M_get (s, pw_lay (pw_σ b) (I, L, ρ)) (some (b + 211)) key (nI k) = some (0, (s, pw_lay (pw_σ b) (uI I (b + 211) 0 2, L, ρ))) := by
  have hc : I (b + 211) 21 = 1 := h.2.1
  unfold f_M_get
  rw [M_in, Option.bind_some, if_pos (M_r14 h1 h4), if_neg (by decide), mf_21, Option.bind_some, hc, if_neg (by decide), Option.bind_some, mw_0, Option.bind_some, mf_0, Option.bind_some, uI_at, if_neg (by decide)]
theorem M_get_op (h : MR I L b φ sl cnt act last time false D ou made taken af ar src) (hP : mP b ρ) (h6 : cnt ≤ 6) (hs : dS D) (hnum : pk_nums φ sl cnt) (hz : ∀ i, i < cnt → mZ (φ (sl.getD i 0)) ∧ qB (φ (sl.getD i 0)).2.1) {key : Int64} {k : Nat} (h1 : 1 ≤ k) (h4 : k ≤ 4) :
    (pe_find (pn_rank k (pn_cut key k)) D = none → f_M_get (s, pw_lay (pw_σ b) (I, L, ρ)) (some (b + 211)) key (nI k) = some (0, (s, pw_lay (pw_σ b) (uI (uI I (b + 211) 0 0) (b + 211) 0 3, L, ρ)))) ∧
    (∀ q r i, pe_find (pn_rank k (pn_cut key k)) D = some q → i < cnt → q.1 = sl.getD i 0 → (φ q.1).2.2.2.2[q.2]? = some r → r.2.1 = k → rV r → r.1 + pn_len r.2.1 r.2.2.2 ≤ (φ q.1).2.1.length → (pk_right (φ q.1) r → f_M_get (s, pw_lay (pw_σ b) (I, L, ρ)) (some (b + 211)) key (nI k) = some (lN (pk_val (φ q.1) r), (s, pw_lay (pw_σ b) (uI I (b + 211) 0 0, L, ρ)))) ∧ (¬ pk_right (φ q.1) r → f_M_get (s, pw_lay (pw_σ b) (I, L, ρ)) (some (b + 211)) key (nI k) = some (0, (s, pw_lay (pw_σ b) (uI (uI I (b + 211) 0 0) (b + 211) 0 4, L, ρ))))) := by
  have hc : I (b + 211) 21 = 0 := h.2.1
  obtain ⟨-, -, hF, ⟨n, E, hd, hr⟩, -⟩ := h.f0 0
  have hcut : pn_cut key k < 2 ^ 32 := Nat.lt_of_lt_of_le (pn_cut_lt key k) (Nat.pow_le_pow_right (by decide) (by omega))
  have hd66 := hd.2.1
  unfold f_M_get
  rw [M_in, Option.bind_some, if_pos (M_r14 h1 h4), if_neg (by decide), mf_21, Option.bind_some, hc, if_pos rfl, Option.bind_some, mw_0, Option.bind_some, mf_0, Option.bind_some, uI_at, if_pos (by decide), pm_cut key (by omega), Option.bind_some, mM_ob, Option.bind_some]
  refine ⟨fun hq => ?_, fun q r i hq hi hqi hr0 hrk hrV hfit => ?_⟩
  · rw [M_find_no hP hd hcut (by omega) (hr.nope hs hq), Option.bind_some, if_neg (by decide), Option.bind_some]
    unfold f_M_fail
    rw [mw_0]
    rfl
  · obtain ⟨j, hj, a1, a2, a3, a4⟩ := hr.find h1 h4 hq
    obtain ⟨q1, q2, q3, q4, q5, q6, q7, q8⟩ := hd.2.2 j hj
    obtain ⟨w1, w2⟩ := hF i hi
    obtain ⟨hzi, hBi⟩ := hz i hi
    rw [← hqi] at w2 hzi hBi
    have hq2 : q.2 < (φ q.1).2.2.2.2.length := (List.getElem?_eq_some_iff.mp hr0).1
    have h11 := hzi.2.2
    have hB100 := hzi.1
    obtain ⟨g1, g2, g3⟩ := w2.2.2.2.2.2.2.2 q.2 r hr0
    have hrow : f_M_rowOf (s, pw_lay (pw_σ b) (uI I (b + 211) 0 0, L, ρ)) (some (b + 211)) (nI (E j).2.2.1) = some (nI i) := by
      have := M_rowOf (s := s) (L := L) (I := uI I (b + 211) 0 0) hP (nm := fun i => (φ (sl.getD i 0)).1) (cnt := cnt) (i := i) (by omega) (fun j hj => ⟨(hF j hj).1, Nat.lt_trans (hnum j hj).1 (by decide)⟩) hi (fun j hj e => (hnum i hi).2 j hj e)
      rw [a3]
      show f_M_rowOf _ _ (nI (φ q.1).1) = _
      rw [hqi]
      exact this
    have hge := pn_len_ge r.2.1 r.2.2.2
    have hlen := pn_len_le hrV.2.1 hrV.2.2.2.1
    have hM := M_len (s := s) (L := L) hP w2 (by omega) hr0 (by omega) (by have := hrV.2.2.2.1; omega)
    have e1 := M_rnum (s := s) (L := L) (ρ := ρ) w2 (by omega) hBi hB100 (p := r.1) (k := 4) (by omega)
    have e2 := M_rsum (s := s) (L := L) (ρ := ρ) w2 (by omega) hBi hB100 (p := r.1 + 4) (k := pn_len r.2.1 r.2.2.2 - 4) (by omega)
    have evb : pn_len r.2.1 r.2.2.2 - 8 - k = if r.2.2.2 = 255 then 0 else r.2.2.2 := by
      unfold pn_len
      rw [hrk]
      omega
    have e3 := M_rnum (s := s) (L := L) (ρ := ρ) w2 (by omega) hBi hB100 (p := r.1 + 8 + k) (k := if r.2.2.2 = 255 then 0 else r.2.2.2) (by rw [← evb]; omega)
    have b1 := pn_num_lt hBi.getD r.1 4
    have b2 := pn_sum_lt hBi.getD (r.1 + 4) (pn_len r.2.1 r.2.2.2 - 4)
    have hcmp : ∀ {α : Type} (X Y : α), (if lg_cmp (lN (pn_num (fun c => (φ q.1).2.1.getD c 0) r.1 4)) (lN (pn_sum (fun c => (φ q.1).2.1.getD c 0) (r.1 + 4) (pn_len r.2.1 r.2.2.2 - 4))) = 0 then X else Y) = if pk_right (φ q.1) r then X else Y := fun X Y => by
      by_cases c : pk_right (φ q.1) r
      · rw [if_pos c, if_pos ((lg_cmp_eq _ _).mpr ((lN_eq63 (by omega) (by omega)).mpr c))]
      · rw [if_neg c, if_neg (fun hc => c ((lN_eq63 (by omega) (by omega)).mp ((lg_cmp_eq _ _).mp hc)))]
    rw [M_find_at hP hd hr.inj hj a1 a2, Option.bind_some, if_pos (nI_pos' (by omega)), mg_18 hP, Option.bind_some, ma_227 (by omega), Option.bind_some, q3, Option.bind_some, hrow, Option.bind_some, mg_10 hP, Option.bind_some, mg_19 hP, Option.bind_some, ma_228 (by omega), Option.bind_some, q4, a4, nI_12, ma_220 (by omega), Option.bind_some, g1, Option.bind_some, ma_228 (by omega), Option.bind_some, q4, a4, Option.bind_some, hM, Option.bind_some, mg_5 hP, Option.bind_some, nI_100, show (4 : Int32) = nI 4 from rfl, e1, Option.bind_some, Option.bind_some, nI_add, nI_add, show 100 * i + r.1 + 4 = 100 * i + (r.1 + 4) by omega, show 100 * i + r.1 + pn_len r.2.1 r.2.2.2 = 100 * i + (r.1 + 4) + (pn_len r.2.1 r.2.2.2 - 4) by omega, e2, Option.bind_some, hcmp]
    have e8 : nI (pn_len r.2.1 r.2.2.2) - (8 : Int32) - nI k = nI (if r.2.2.2 = 255 then 0 else r.2.2.2) := by
      rw [← evb]
      have : nI (pn_len r.2.1 r.2.2.2) = nI (pn_len r.2.1 r.2.2.2 - 8 - k) + nI k + 8 := by
        rw [nI_add, show (8 : Int32) = nI 8 from rfl, nI_add]
        congr 1
        omega
      rw [this, Int32.add_sub_cancel, Int32.add_sub_cancel]
    refine ⟨fun hc => ?_, fun hc => ?_⟩
    · rw [if_pos hc, Option.bind_some, show nI (100 * i + r.1) + (8 : Int32) = nI (100 * i + r.1 + 8) from nI_add _ 8, nI_add, e8, show 100 * i + r.1 + 8 + k = 100 * i + (r.1 + 8 + k) by omega, e3]
      unfold pk_val
      rw [hrk]
      rfl
    · rw [if_neg hc, Option.bind_some]
      unfold f_M_fail
      rw [show nI 4 = (4 : Int32) from rfl, mw_0]
      rfl
end
