/-! ===== the store's files: answers, bytes, spoiling ===== -/
/-- live bytes among the first n records of the file f -/
def pk_lvn (φ : Nat → qf) (D : List (Nat × Nat × Nat)) (f : Nat) : Nat → Nat
  | 0 => 0
  | n + 1 => pk_lvn φ D f n + if pe_find (pn_rank ((φ f).2.2.2.2.getD n (0, 0, 0, 0)).2.1 ((φ f).2.2.2.2.getD n (0, 0, 0, 0)).2.2.1) D = some (f, n) then pn_len ((φ f).2.2.2.2.getD n (0, 0, 0, 0)).2.1 ((φ f).2.2.2.2.getD n (0, 0, 0, 0)).2.2.2 else 0
theorem pk_lvn_le {φ : Nat → qf} {D : List (Nat × Nat × Nat)} {f : Nat} (hv : ∀ r ∈ (φ f).2.2.2.2, rV r) : ∀ n, n ≤ (φ f).2.2.2.2.length → pk_lvn φ D f n ≤ 20 * n
  | 0, _ => Nat.le_refl _
  | n + 1, h => by
    have ih := pk_lvn_le (D := D) hv n (by omega)
    have hr := hv _ (List.mem_of_getElem? (pk_getD (l := (φ f).2.2.2.2) (n := n) (d := (0, 0, 0, 0)) (by omega)))
    have := pn_len_le hr.2.1 hr.2.2.2.1
    unfold pk_lvn
    split <;> omega
/-- a byte and bits -/
def pn_xb (x : Nat) (bits : Int32) : Nat := x ^^^ (bits.toBitVec.toNat % 256)
theorem nI_m255 (v : Int32) : v &&& 255 = nI (v.toBitVec.toNat % 256) := by
  apply Int32.toBitVec_inj.mp
  rw [Int32.toBitVec_and, nI_bv]
  apply BitVec.eq_of_toNat_eq
  rw [BitVec.toNat_and, BitVec.toNat_ofNat, show ((255 : Int32).toBitVec).toNat = 2 ^ 8 - 1 by decide, Nat.and_two_pow_sub_one_eq_mod]
  omega
theorem pn_xb_lt {x : Nat} (h : x < 256) (bits : Int32) : pn_xb x bits < 256 := Nat.xor_lt_two_pow (n := 8) h (by omega)
theorem pn_xb_cls {x : Nat} (h : x < 256) (bits : Int32) : (nI x ^^^ bits) &&& 255 = nI (pn_xb x bits) := by
  unfold pn_xb
  rw [← nI_xor, ← nI_m255]
  apply Int32.toBitVec_inj.mp
  rw [Int32.toBitVec_and, Int32.toBitVec_xor, Int32.toBitVec_xor, Int32.toBitVec_and]
  apply BitVec.eq_of_getLsbD_eq
  intro i hi
  rw [BitVec.getLsbD_and, BitVec.getLsbD_xor, BitVec.getLsbD_xor, BitVec.getLsbD_and, and255 hi]
  by_cases h8 : i < 8
  · simp [h8]
  · have : (nI x).toBitVec.getLsbD i = false := by
      rw [nI_bv, BitVec.getLsbD_ofNat, Nat.testBit_lt_two_pow (Nat.lt_of_lt_of_le h (Nat.pow_le_pow_right (n := 2) (i := 8) (by decide) (by omega)))]
      simp
    simp [h8, this]
section
variable {μ : pw_Mem} {s : Option Nat} {b : Nat} {φ : Nat → qf} {sl : List Nat} {cnt : Nat} {act : Bool} {last time : Nat} {cl : Bool} {D : List (Nat × Nat × Nat)} {ou fs : List Nat}
theorem A_files (hA : kA μ b time cl) (hS : kS μ b sl cnt act last) : f_A_files (s, pw_lay (pw_σ b) μ) (some b) = some (nI cnt) := by
  unfold f_A_files
  rw [kA_g0 hA, Option.bind_some, kS_ob, Option.bind_some, kS_count hS]
  rfl
theorem kS_atI (h : kS μ b sl cnt act last) (k : Int32) : f_S_at (s, pw_lay (pw_σ b) μ) (some (b + 1)) k = some (if k < 0 ∨ cnt ≤ k.toNatClampNeg then none else some (sl.getD k.toNatClampNeg 0)) := by
  by_cases c : k < 0
  · rw [kS_atneg c, if_pos (Or.inl c)]
  · obtain ⟨j, hj, rfl⟩ := nI_of c
    rw [nI_clamp hj]
    by_cases c2 : j < cnt
    · rw [kS_at' h c2, if_neg (fun hc => hc.elim c (by omega))]
    · rw [kS_at h hj, if_neg c2, if_pos (Or.inr (by omega))]
theorem qF_live (hE : kE μ b D) (hF : kF μ b φ) (ok : dOK φ fs D) (hb : ∀ f ∈ fs, isB b f) (hv : ∀ f, isB b f → qV (φ f)) {f : Nat} (hf : isB b f) : f_F_liveBytes (s, pw_lay (pw_σ b) μ) (some f) (some (b + 105)) = some (nI (pk_lvn φ D f (φ f).2.2.2.2.length)) := by
  have q := hF f hf
  have h11 := q.2.2.2.2.2.2.2.1
  unfold f_F_liveBytes
  refine (pw_loop (nI (pk_lvn φ D f (φ f).2.2.2.2.length), nI (φ f).2.2.2.2.length) (φ f).2.2.2.2.length (fun j => (nI (pk_lvn φ D f j), nI j)) rfl (fun j hj => ?_) ?_).trans rfl
  · have hr : (φ f).2.2.2.2[j]? = some ((φ f).2.2.2.2.getD j (0, 0, 0, 0)) := pk_getD hj
    have hrV := (hv f hf).2.2.2.2 _ (List.mem_of_getElem? hr)
    dsimp only
    rw [qF_g3 q, Option.bind_some, if_neg (nI_ge hj (by omega)), qF_g2 q, Option.bind_some, qF_rec q (by omega), Option.bind_some, kD_ob, Option.bind_some, kD_hasRec hE hF ok hb hv hf hr, Option.bind_some]
    by_cases c : pe_find (pn_rank ((φ f).2.2.2.2.getD j (0, 0, 0, 0)).2.1 ((φ f).2.2.2.2.getD j (0, 0, 0, 0)).2.2.1) D = some (f, j)
    · rw [if_pos c, if_neg (by decide), Option.bind_some, qF_rec q (by omega), Option.bind_some, qF_rob q (by omega), Option.bind_some, qF_rsize q hr hrV, Option.bind_some, Option.bind_some, nI_add, nI_1, pk_lvn, if_pos c]
    · rw [if_neg c, if_pos rfl, Option.bind_some, nI_1, pk_lvn, if_neg c]
      rfl
  · dsimp only
    rw [qF_g3 q, Option.bind_some, if_pos (nI_le (Nat.le_refl _) (by omega))]
/-- what a file tells -/
def pk_file (φ : Nat → qf) (D : List (Nat × Nat × Nat)) (cl : Bool) (f : Nat) (what : Int32) : Nat :=
  if what = 0 then (φ f).1 else if what = 1 then (φ f).2.1.length else if what = 2 then (φ f).2.2.1 else if what = 3 then (if cl then 0 else pk_lvn φ D f (φ f).2.2.2.2.length) else (φ f).2.2.2.1.length
theorem L_file_bad (hA : kA μ b time cl) (hS : kS μ b sl cnt act last) {p1 p2 : Int32} (h : (p2 < 0 ∨ ¬ p2 ≤ 4) ∨ p1 < 0 ∨ cnt ≤ p1.toNatClampNeg) : f_L_file (s, pw_lay (pw_σ b) μ) (some b) p1 p2 (some (b + 229)) = some (1, (none, pw_lay (pw_σ b) μ)) := by
  unfold f_L_file f_A_file
  rw [kA_ob, Option.bind_some]
  by_cases c : p2 < 0 ∨ ¬ p2 ≤ 4
  · rw [rg_no c]
    simp only [Option.bind_some, if_true]
  · have c1 : ¬ p2 < 0 := fun h => c (Or.inl h)
    have c2 : p2 ≤ 4 := Classical.byContradiction fun h => c (Or.inr h)
    rw [rg_ok c1 c2]
    simp only [Option.bind_some, kA_g0 hA, kS_ob]
    rw [kS_atI hS, if_pos (h.elim (fun h => absurd h c) id)]
    simp only [Option.bind_some, if_true]
theorem L_file_ok (hA : kA μ b time cl) (hS : kS μ b sl cnt act last) (hE : kE μ b D) (hF : kF μ b φ) (ok : dOK φ fs D) (hb : ∀ f ∈ fs, isB b f) (hv : ∀ f, isB b f → qV (φ f)) {p2 : Int32} (h1 : ¬ p2 < 0) (h2 : p2 ≤ 4) {i : Nat} (hi : i < cnt) : f_L_file (s, pw_lay (pw_σ b) μ) (some b) (nI i) p2 (some (b + 229)) = some (0, (s, pw_lay (pw_σ b) (pw_sL μ (b + 229) 0 (nI (pk_file φ D cl (sl.getD i 0) p2)).toInt64))) := by
  have h6 := hS.2.2.2.2.2.1
  obtain ⟨z1, z2, z3⟩ := kS_getD hS (i := i) (by omega)
  have q := hF _ z3
  unfold f_L_file f_A_file
  rw [kA_ob, Option.bind_some, rg_ok h1 h2]
  simp only [Option.bind_some, kA_g0 hA, kS_ob]
  rw [kS_at' hS hi]
  simp only [Option.bind_some]
  rw [if_neg (fun hc => nomatch hc)]
  unfold pk_file
  by_cases w0 : p2 = 0
  · rw [if_pos w0, if_pos w0, qF_ob q]
    simp only [Option.bind_some]
    rw [pf_number q.1, q.2.2.2.2.1]
    simp only [Option.bind_some]
    rw [aL_put]
    rfl
  · rw [if_neg w0, if_neg w0]
    by_cases w1 : p2 = 1
    · rw [if_pos w1, if_pos w1, qF_ob q]
      simp only [Option.bind_some]
      rw [pf_bytes q.1 q.2.1]
      simp only [Option.bind_some, qF_ob1 q, qF_size q]
      rw [aL_put]
      rfl
    · rw [if_neg w1, if_neg w1]
      by_cases w2 : p2 = 2
      · rw [if_pos w2, if_pos w2, qF_ob q]
        simp only [Option.bind_some]
        rw [pf_synced q.1, q.2.2.2.2.2.1]
        simp only [Option.bind_some]
        rw [aL_put]
        rfl
      · rw [if_neg w2, if_neg w2]
        by_cases w3 : p2 = 3
        · rw [if_pos w3, if_pos w3, kA_g4 hA, Option.bind_some]
          cases cl with
          | true =>
            rw [if_pos rfl, if_neg (by decide), if_pos rfl]
            simp only [Option.bind_some]
            rw [aL_put]
            rfl
          | false =>
            simp only [Bool.false_eq_true, if_false, if_true]
            rw [kA_g1 hA]
            simp only [Option.bind_some, qF_ob q]
            rw [qF_live hE hF ok hb hv z3]
            simp only [Option.bind_some]
            rw [aL_put]
            rfl
        · rw [if_neg w3, if_neg w3, qF_ob q]
          simp only [Option.bind_some]
          rw [pf_hint q.1 q.2.1]
          simp only [Option.bind_some, qF_ob3 q, qF_hsize q]
          rw [aL_put]
          rfl
/-- the row of bytes that is asked for -/
def pk_row (t : qf) (hint : Bool) : List Nat := if hint then t.2.2.2.1 else t.2.1
/-- is there such a byte? -/
def pk_byte (φ : Nat → qf) (sl : List Nat) (cnt : Nat) (k i : Int32) (hint : Bool) : Prop := ¬ (k < 0 ∨ cnt ≤ k.toNatClampNeg) ∧ ¬ i < 0 ∧ i.toNatClampNeg < (pk_row (φ (sl.getD k.toNatClampNeg 0)) hint).length
theorem A_row (hA : kA μ b time cl) (hS : kS μ b sl cnt act last) (hF : kF μ b φ) (k i : Int32) (hint : Bool) :
    (pk_byte φ sl cnt k i hint → f_A_rowWith (s, pw_lay (pw_σ b) μ) (some b) k i (if hint then 1 else 0) = some (.inl (some (sl.getD k.toNatClampNeg 0 + if hint then 3 else 1)), (s, pw_lay (pw_σ b) μ))) ∧
    (¬ pk_byte φ sl cnt k i hint → f_A_rowWith (s, pw_lay (pw_σ b) μ) (some b) k i (if hint then 1 else 0) = some (.inr "java/lang/IllegalArgumentException", (none, pw_lay (pw_σ b) μ))) := by
  have h6 := hS.2.2.2.2.2.1
  unfold f_A_rowWith pk_byte pk_row
  rw [kA_g0 hA, Option.bind_some, kS_ob, Option.bind_some, kS_atI hS]
  simp only [Option.bind_some]
  by_cases c : k < 0 ∨ cnt ≤ k.toNatClampNeg
  · rw [if_pos c]
    refine ⟨fun h => absurd c h.1, fun _ => ?_⟩
    simp only [if_true]
  · rw [if_neg c]
    have hlt : k.toNatClampNeg < cnt := Classical.byContradiction fun h => c (Or.inr (by omega))
    generalize k.toNatClampNeg = j at hlt c ⊢
    obtain ⟨z1, z2, z3⟩ := kS_getD hS (i := j) (by omega)
    have q := hF _ z3
    rw [if_neg (show ¬ some (sl.getD j 0) = none from fun hc => nomatch hc)]
    have fin : ∀ (o cap : Nat) (B : List Nat), pw_OL (pw_σ b) μ o cap (B.map nI) → f_O_has (s, pw_lay (pw_σ b) μ) (some o) i = some (if ¬ i < 0 ∧ i.toNatClampNeg < B.length then 1 else 0) := by
      intro o cap B hO
      rw [po_has hO.1, pw_map_len]
      have hc := hO.1.2.2.2.2
      rw [pw_map_len] at hc
      by_cases ci : i < 0
      · rw [if_neg (fun h => h.1 ci), if_neg (fun h => h.1 ci)]
      · obtain ⟨n, hn, rfl⟩ := nI_of ci
        rw [nI_clamp hn]
        by_cases cn : n < B.length
        · rw [if_pos ⟨ci, nI_ge cn (by omega)⟩, if_pos ⟨ci, cn⟩]
        · rw [if_neg (fun h => h.2 (nI_le (by omega) hn)), if_neg (fun h => cn h.2)]
    cases hint with
    | false =>
      simp only [Bool.false_eq_true, if_false, if_true]
      rw [qF_ob q]
      simp only [Option.bind_some]
      rw [pf_bytes q.1 q.2.1]
      simp only [Option.bind_some, qF_ob1 q, fin _ _ _ q.2.2.1]
      refine ⟨fun h => ?_, fun h => ?_⟩
      · rw [if_pos h.2, if_neg (by decide)]
      · rw [if_neg (fun hc => h ⟨c, hc⟩), if_pos rfl]
    | true =>
      have h10 : ¬ (1 : Int32) = 0 := by decide
      simp only [if_true, if_neg h10]
      rw [qF_ob q]
      simp only [Option.bind_some]
      rw [pf_hint q.1 q.2.1]
      simp only [Option.bind_some, qF_ob3 q, fin _ _ _ q.2.2.2.1]
      refine ⟨fun h => ?_, fun h => ?_⟩
      · rw [if_pos h.2, if_neg (by decide)]
      · rw [if_neg (fun hc => h ⟨c, hc⟩), if_pos rfl]
theorem L_octet (hA : kA μ b time cl) (hS : kS μ b sl cnt act last) (hF : kF μ b φ) (k i : Int32) (hint : Bool) :
    (pk_byte φ sl cnt k i hint → f_L_octet (s, pw_lay (pw_σ b) μ) (some b) k i (if hint then 1 else 0) (some (b + 229)) = some (0, (s, pw_lay (pw_σ b) (pw_sL μ (b + 229) 0 (nI ((pk_row (φ (sl.getD k.toNatClampNeg 0)) hint).getD i.toNatClampNeg 0)).toInt64)))) ∧
    (¬ pk_byte φ sl cnt k i hint → f_L_octet (s, pw_lay (pw_σ b) μ) (some b) k i (if hint then 1 else 0) (some (b + 229)) = some (1, (none, pw_lay (pw_σ b) μ))) := by
  obtain ⟨r1, r2⟩ := A_row (s := s) hA hS hF k i hint
  have h6 := hS.2.2.2.2.2.1
  unfold f_L_octet f_A_octet
  refine ⟨fun h => ?_, fun h => ?_⟩
  · obtain ⟨h1, h2, h3⟩ := h
    have hlt : k.toNatClampNeg < cnt := Classical.byContradiction fun h => h1 (Or.inr (by omega))
    obtain ⟨z1, z2, z3⟩ := kS_getD hS (i := k.toNatClampNeg) (by omega)
    have q := hF _ z3
    obtain ⟨n, hn, rfl⟩ := nI_of h2
    rw [nI_clamp hn] at h3 ⊢
    rw [kA_ob, Option.bind_some, Option.bind_some, r1 ⟨h1, h2, by rw [nI_clamp hn]; exact h3⟩]
    simp only [Option.bind_some]
    cases hint with
    | false =>
      simp only [Bool.false_eq_true, if_false]
      rw [qF_ob1 q]
      simp only [Option.bind_some]
      rw [qF_at q hn]
      simp only [Option.bind_some]
      rw [aL_put]
      rfl
    | true =>
      simp only [if_true]
      rw [qF_ob3 q]
      simp only [Option.bind_some]
      rw [qF_hat q hn]
      simp only [Option.bind_some]
      rw [aL_put]
      rfl
  · rw [kA_ob, Option.bind_some, Option.bind_some, r2 h]
    simp only [Option.bind_some, if_true]
/-- a file with a byte spoilt -/
def pt_spoil (t : qf) (hint : Bool) (i : Nat) (bits : Int32) : qf := if hint then (t.1, t.2.1, t.2.2.1, t.2.2.2.1.set i (pn_xb (t.2.2.2.1.getD i 0) bits), t.2.2.2.2) else (t.1, t.2.1.set i (pn_xb (t.2.1.getD i 0) bits), t.2.2)
theorem L_spoil (hA : kA μ b time cl) (hS : kS μ b sl cnt act last) (hF : kF μ b φ) (hv : ∀ f, isB b f → qV (φ f)) (k i : Int32) (hint : Bool) (bits : Int32) :
    (pk_byte φ sl cnt k i hint → ∃ μ', f_L_spoil (s, pw_lay (pw_σ b) μ) (some b) k i (if hint then 1 else 0) bits = some (0, (s, pw_lay (pw_σ b) μ')) ∧ kF μ' b (pu φ (sl.getD k.toNatClampNeg 0) (pt_spoil (φ (sl.getD k.toNatClampNeg 0)) hint i.toNatClampNeg bits)) ∧ pw_fr μ μ' (fun a => a = sl.getD k.toNatClampNeg 0 + 2 ∨ a = sl.getD k.toNatClampNeg 0 + 4)) ∧
    (¬ pk_byte φ sl cnt k i hint → f_L_spoil (s, pw_lay (pw_σ b) μ) (some b) k i (if hint then 1 else 0) bits = some (1, (none, pw_lay (pw_σ b) μ))) := by
  obtain ⟨r1, r2⟩ := A_row (s := s) hA hS hF k i hint
  have h6 := hS.2.2.2.2.2.1
  unfold f_L_spoil f_A_spoil
  refine ⟨fun h => ?_, fun h => ?_⟩
  · obtain ⟨h1, h2, h3⟩ := h
    have hlt : k.toNatClampNeg < cnt := Classical.byContradiction fun h => h1 (Or.inr (by omega))
    obtain ⟨z1, z2, z3⟩ := kS_getD hS (i := k.toNatClampNeg) (by omega)
    have q := hF _ z3
    obtain ⟨n, hn, rfl⟩ := nI_of h2
    rw [nI_clamp hn] at h3 ⊢
    rw [kA_ob, Option.bind_some, Option.bind_some, r1 ⟨h1, h2, by rw [nI_clamp hn]; exact h3⟩]
    simp only [Option.bind_some]
    obtain ⟨v1, v2, -⟩ := hv _ z3
    cases hint with
    | false =>
      have h3' : n < (φ (sl.getD k.toNatClampNeg 0)).2.1.length := h3
      simp only [Bool.false_eq_true, if_false]
      rw [qF_ob1 q]
      simp only [Option.bind_some]
      rw [qF_at q hn]
      simp only [Option.bind_some]
      rw [po_set q.2.2.1.1 (by rw [pw_map_len]; exact h3')]
      have g : pw_fr μ (pw_sI μ (sl.getD k.toNatClampNeg 0 + 1 + 1) n (pw_n8 (nI ((φ (sl.getD k.toNatClampNeg 0)).2.1.getD n 0) ^^^ bits))) (fun a => a = sl.getD k.toNatClampNeg 0 + 1 ∨ a = sl.getD k.toNatClampNeg 0 + 2) := pw_fr.sI (Or.inr rfl)
      have k1 := pl_set q.2.2.1 (i := n) (nI ((φ (sl.getD k.toNatClampNeg 0)).2.1.getD n 0) ^^^ bits)
      rw [pn_xb_cls (v1.getD n), ← List.map_set] at k1
      have q1 := qF_bytes q g k1
      exact ⟨_, rfl, hF.upd z3 (g.mono (fun a ha => by unfold pw_in; omega)) q1, pw_fr.sI (Or.inl rfl)⟩
    | true =>
      have h3' : n < (φ (sl.getD k.toNatClampNeg 0)).2.2.2.1.length := h3
      simp only [if_true]
      rw [qF_ob3 q]
      simp only [Option.bind_some]
      rw [qF_hat q hn]
      simp only [Option.bind_some]
      rw [po_set q.2.2.2.1.1 (by rw [pw_map_len]; exact h3')]
      have g : pw_fr μ (pw_sI μ (sl.getD k.toNatClampNeg 0 + 3 + 1) n (pw_n8 (nI ((φ (sl.getD k.toNatClampNeg 0)).2.2.2.1.getD n 0) ^^^ bits))) (fun a => a = sl.getD k.toNatClampNeg 0 + 3 ∨ a = sl.getD k.toNatClampNeg 0 + 4) := pw_fr.sI (Or.inr rfl)
      have k1 := pl_set q.2.2.2.1 (i := n) (nI ((φ (sl.getD k.toNatClampNeg 0)).2.2.2.1.getD n 0) ^^^ bits)
      rw [pn_xb_cls (v2.getD n), ← List.map_set] at k1
      have q1 := qF_hbytes q g k1
      exact ⟨_, rfl, hF.upd z3 (g.mono (fun a ha => by unfold pw_in; omega)) q1, pw_fr.sI (Or.inr rfl)⟩
  · rw [kA_ob, Option.bind_some, Option.bind_some, r2 h]
    simp only [Option.bind_some, if_true]
end
