/-! ===== the reference loses power, tells of files, has bytes spoilt ===== -/
section
variable {I I' : mN} {L L' : mL} {ρ : mQ} {s : Option Nat} {b : Nat} {φ φ' : Nat → qf} {sl : List Nat} {cnt : Nat} {act : Bool} {last time : Nat} {cl : Bool} {D : List (Nat × Nat × Nat)} {ou : List Nat} {made taken af ar : Nat} {src : Nat → Nat → Nat × Nat}
theorem M_lose_bad {p : Int32} (h : p < 0 ∨ ¬ p ≤ 100) : f_M_lose (s, pw_lay (pw_σ b) (I, L, ρ)) (some (b + 211)) p = some (s, pw_lay (pw_σ b) (uI I (b + 211) 0 1, L, ρ)) := by
  have c : ¬ (¬ p < 0 ∧ p ≤ 100) := fun hc => h.elim hc.1 (fun h => h hc.2)
  unfold f_M_lose
  rw [M_in, Option.bind_some, if_neg c, if_pos rfl, Option.bind_some, mw_0, Option.bind_some, mf_0, Option.bind_some, uI_at, if_neg (by decide)]
theorem mW.lose {i : Nat} {t : qf} (h : mW I b i t) (m : Nat) : mW (uI (uI I (b + 213) i (nI (pt_lose t m).2.1.length)) (b + 214) i (nI (pt_lose t m).2.1.length)) b i (pt_lose t m) := by
  obtain ⟨h1, h2, h3, h4, h5, h6, h7, h8⟩ := h
  refine ⟨?_, uI_at, fun k hk => ?_, ?_, fun hn => ?_, fun k hk => ?_, ?_, fun k r hr => ?_⟩
  · rw [uI_ne (by omega), uI_at]
  · have hk' : k < (t.2.1.take (t.2.2.1 + m)).length := hk
    rw [List.length_take] at hk'
    rw [uI_ne (by omega), uI_ne (by omega), h3 k (by omega)]
    congr 1
    show _ = (t.2.1.take (t.2.2.1 + m)).getD k 0
    unfold List.getD
    rw [List.getElem?_take_of_lt (by omega)]
  · rw [uI_ne (by omega), uI_ne (by omega)]; exact h4
  · rw [uI_ne (by omega), uI_ne (by omega)]; exact h5 hn
  · rw [uI_ne (by omega), uI_ne (by omega)]; exact h6 k hk
  · rw [uI_ne (by omega), uI_ne (by omega)]; exact h7
  · rw [uI_ne (by omega), uI_ne (by omega), uI_ne (by omega), uI_ne (by omega), uI_ne (by omega), uI_ne (by omega)]; exact h8 k r hr
/-- three fields are set behind a loss -/
theorem MR.lost (h : MR I L b φ sl cnt act last time cl D ou made taken af ar src) : MR (uI (uI (uI I (b + 211) 20 0) (b + 211) 24 0) (b + 211) 21 1) L b φ sl cnt false last time true D ou made 0 af ar src := by
  obtain ⟨⟨a1, a2, a3, a4⟩, h2, h3, ⟨n, E, h4, h5⟩, -⟩ := h
  refine ⟨⟨?_, ?_, ?_, ?_⟩, uI_at, ((h3.fld _ _).fld _ _).fld _ _, ⟨n, E, ((h4.fld (by decide) _).fld (by decide) _).fld (by decide) _, h5⟩, ?_, fun ht => absurd ht (Nat.lt_irrefl 0)⟩
  · rw [uI_ne (by omega), uI_ne (by omega), uI_ne (by omega)]; exact a1
  · rw [uI_ne (by omega), uI_ne (by omega), uI_at]; rfl
  · rw [uI_ne (by omega), uI_ne (by omega), uI_ne (by omega)]; exact a3
  · rw [uI_ne (by omega), uI_ne (by omega), uI_ne (by omega)]; exact a4
  · rw [uI_ne (by omega), uI_at]; rfl
theorem M_lose_ok (h : MR I L b φ sl cnt act last time cl D ou made taken af ar src) (hP : mP b ρ) (ap : pk_ap sl ou) (h6 : cnt ≤ 6) (hpos : act = true → 0 < cnt) (hm : 0 < taken → made ≤ 6) (hz : ∀ i, i < 6 → mZ (φ (sl.getD i 0)) ∧ mZ (φ (ou.getD i 0))) (hsy : ∀ i, i < cnt → (φ (sl.getD i 0)).2.2.1 ≤ (φ (sl.getD i 0)).2.1.length) {m : Nat} (hm100 : m ≤ 100) :
    ∃ I', f_M_lose (s, pw_lay (pw_σ b) (I, L, ρ)) (some (b + 211)) (nI m) = some (s, pw_lay (pw_σ b) (I', L, ρ)) ∧ I' (b + 211) 0 = 0 ∧ MR I' L b (pu_lose φ sl cnt act m) sl cnt false last time true D ou made 0 af ar src ∧ mfr I I' (fun a _ => mCM b a) := by
  have h0 := h.f0 0
  have h0' := h0
  obtain ⟨⟨a1, a2, a3, a4⟩, h2, h3, -⟩ := h0'
  have g0 : mfr I (uI I (b + 211) 0 0) (fun a _ => mCM b a) := mfr.uI (Q := fun a _ => mCM b a) ⟨by omega, by omega⟩
  have g3 : ∀ J : mN, mfr J (uI (uI (uI J (b + 211) 20 0) (b + 211) 24 0) (b + 211) 21 1) (fun a _ => mCM b a) := fun J => ((mfr.uI (Q := fun a _ => mCM b a) ⟨by omega, by omega⟩).trans (mfr.uI (Q := fun a _ => mCM b a) ⟨by omega, by omega⟩)).trans (mfr.uI (Q := fun a _ => mCM b a) ⟨by omega, by omega⟩)
  unfold f_M_lose pu_lose
  rw [M_in, Option.bind_some, if_pos (show ¬ nI m < 0 ∧ nI m ≤ 100 from ⟨nI_pos (by omega), nI_le (b := 100) hm100 (by decide)⟩), if_neg (by decide), Option.bind_some, mw_0, Option.bind_some, mf_0, Option.bind_some, uI_at, if_pos (by decide), mf_20, Option.bind_some, a2]
  cases act with
  | false =>
    simp only [Bool.false_eq_true, if_false, if_true, Option.bind_some]
    rw [mw_20, Option.bind_some, mw_24, Option.bind_some, mw_21]
    exact ⟨_, rfl, by rw [uI_ne (by omega), uI_ne (by omega), uI_ne (by omega), uI_at], h0.lost, g0.trans (g3 _)⟩
  | true =>
    have hp := hpos rfl
    obtain ⟨r, rfl⟩ : ∃ r, cnt = r + 1 := ⟨cnt - 1, by omega⟩
    obtain ⟨w1, w2⟩ := h3 r (by omega)
    have hzr := (hz r (by omega)).1.1
    have hsr := hsy r (by omega)
    have e10 : ¬ (1 : Int32) = 0 := by decide
    have elen : (pt_lose (φ (sl.getD r 0)) m).2.1.length = if (φ (sl.getD r 0)).2.1.length ≤ (φ (sl.getD r 0)).2.2.1 + m then (φ (sl.getD r 0)).2.1.length else (φ (sl.getD r 0)).2.2.1 + m := by
      show ((φ (sl.getD r 0)).2.1.take _).length = _
      rw [List.length_take]
      split <;> omega
    have ej : (if nI (φ (sl.getD r 0)).2.1.length ≤ nI (φ (sl.getD r 0)).2.2.1 + nI m then (some (nI (φ (sl.getD r 0)).2.1.length) : Option Int32) else some (nI (φ (sl.getD r 0)).2.2.1 + nI m)) = some (nI (pt_lose (φ (sl.getD r 0)) m).2.1.length) := by
      rw [elen, nI_add]
      by_cases c : (φ (sl.getD r 0)).2.1.length ≤ (φ (sl.getD r 0)).2.2.1 + m
      · rw [if_pos (nI_le c (by omega)), if_pos c]
      · rw [if_neg (fun hc => c ((nI_leI (by omega) (by omega)).mp hc)), if_neg c]
    simp only [if_true, if_neg e10]
    rw [mf_1, Option.bind_some, a1, nI_pred, mg_4 hP, Option.bind_some, ma_214 (by omega), Option.bind_some, w2.2.1, mg_3 hP, Option.bind_some, Option.bind_some, ma_213 (by omega), Option.bind_some, w2.1, Option.bind_some, ma_213 (by omega), Option.bind_some, w2.1, ej, Option.bind_some, ms_213 (by omega), Option.bind_some, mg_4 hP, Option.bind_some, mg_3 hP, Option.bind_some, ma_213 (by omega), Option.bind_some, uI_at, ms_214 (by omega), Option.bind_some, Option.bind_some, mw_20, Option.bind_some, mw_24, Option.bind_some, mw_21, Nat.add_sub_cancel]
    have hrow := h0.row ap h6 hm hz (i := r) (by omega) (t := pt_lose (φ (sl.getD r 0)) m) rfl ((mfr.uI (Q := fun a k => mC b r a k ∧ a ≠ b + 212) (a := b + 213) (k := r) (x := nI (pt_lose (φ (sl.getD r 0)) m).2.1.length) ⟨Or.inl ⟨by omega, rfl⟩, by omega⟩).trans (mfr.uI (Q := fun a k => mC b r a k ∧ a ≠ b + 212) (a := b + 214) (k := r) (x := nI (pt_lose (φ (sl.getD r 0)) m).2.1.length) ⟨Or.inl ⟨by omega, rfl⟩, by omega⟩)) (w2.lose m)
    refine ⟨_, rfl, by rw [uI_ne (by omega), uI_ne (by omega), uI_ne (by omega), uI_ne (by omega), uI_ne (by omega), uI_at], hrow.lost, ((g0.trans (mfr.uI (Q := fun a _ => mCM b a) ⟨by omega, by omega⟩)).trans (mfr.uI (Q := fun a _ => mCM b a) ⟨by omega, by omega⟩)).trans (g3 _)⟩
theorem M_isByte (h : MR I L b φ sl cnt act last time cl D ou made taken af ar src) (hP : mP b ρ) (h6 : cnt ≤ 6) (hz : ∀ i, i < cnt → mZ (φ (sl.getD i 0))) (k i : Int32) (hint : Bool) : (pk_byte φ sl cnt k i hint → f_M_isByte (s, pw_lay (pw_σ b) (I, L, ρ)) (some (b + 211)) k i (if hint then 1 else 0) = some 1) ∧ (¬ pk_byte φ sl cnt k i hint → f_M_isByte (s, pw_lay (pw_σ b) (I, L, ρ)) (some (b + 211)) k i (if hint then 1 else 0) = some 0) := by
  obtain ⟨⟨a1, -⟩, -, h3, -⟩ := h
  unfold f_M_isByte pk_byte pk_row
  rw [mf_1, Option.bind_some, a1, M_in, Option.bind_some]
  by_cases c : ¬ k < 0 ∧ k.toNatClampNeg < cnt
  · rw [if_pos (show ¬ k < 0 ∧ k ≤ nI cnt - 1 from (M_in0 (by omega)).mpr c), if_neg (show ¬ (1 : Int32) = 0 by decide)]
    have c' : ¬ (k < 0 ∨ cnt ≤ k.toNatClampNeg) := fun hc => hc.elim c.1 (fun h => by omega)
    obtain ⟨j, hj, rfl⟩ := nI_of c.1
    rw [nI_clamp hj] at c c' ⊢
    obtain ⟨w1, w2⟩ := h3 j c.2
    have hzj := hz j c.2
    cases hint with
    | false =>
      simp only [Bool.false_eq_true, if_false, if_true]
      rw [mg_3 hP, Option.bind_some, ma_213 (by omega), Option.bind_some, w2.1, M_in, Option.bind_some]
      by_cases ci : ¬ i < 0 ∧ i.toNatClampNeg < (φ (sl.getD j 0)).2.1.length
      · rw [if_pos (show ¬ i < 0 ∧ i ≤ nI (φ (sl.getD j 0)).2.1.length - 1 from (M_in0 (by have := hzj.1; omega)).mpr ci), if_neg (by decide), Option.bind_some, aw_zz_1]
        exact ⟨fun _ => rfl, fun hn => absurd ⟨c', ci.1, ci.2⟩ hn⟩
      · rw [if_neg (show ¬ (¬ i < 0 ∧ i ≤ nI (φ (sl.getD j 0)).2.1.length - 1) from fun hc => ci ((M_in0 (by have := hzj.1; omega)).mp hc)), if_pos rfl, Option.bind_some, aw_zz_0]
        exact ⟨fun hn => absurd hn.2 ci, fun _ => rfl⟩
    | true =>
      have e10 : ¬ (1 : Int32) = 0 := by decide
      simp only [if_true, if_neg e10]
      rw [mg_6 hP, Option.bind_some, ma_216 (by omega), Option.bind_some, w2.2.2.2.1]
      by_cases ch : (φ (sl.getD j 0)).2.2.2.1 = []
      · rw [if_pos ch, if_pos rfl, Option.bind_some, aw_zz_0]
        refine ⟨fun hn => ?_, fun _ => rfl⟩
        have := hn.2.2
        rw [ch] at this
        exact absurd this (Nat.not_lt_zero _)
      · rw [if_neg ch, if_neg (by decide), mg_7 hP, Option.bind_some, ma_217 (by omega), Option.bind_some, w2.2.2.2.2.1 ch, M_in, Option.bind_some]
        by_cases ci : ¬ i < 0 ∧ i.toNatClampNeg < (φ (sl.getD j 0)).2.2.2.1.length
        · rw [if_pos (show ¬ i < 0 ∧ i ≤ nI (φ (sl.getD j 0)).2.2.2.1.length - 1 from (M_in0 (by have := hzj.2.1; omega)).mpr ci), if_neg (by decide), Option.bind_some, aw_zz_1]
          exact ⟨fun _ => rfl, fun hn => absurd ⟨c', ci.1, ci.2⟩ hn⟩
        · rw [if_neg (show ¬ (¬ i < 0 ∧ i ≤ nI (φ (sl.getD j 0)).2.2.2.1.length - 1) from fun hc => ci ((M_in0 (by have := hzj.2.1; omega)).mp hc)), if_pos rfl, Option.bind_some, aw_zz_0]
          exact ⟨fun hn => absurd hn.2 ci, fun _ => rfl⟩
  · rw [if_neg (show ¬ (¬ k < 0 ∧ k ≤ nI cnt - 1) from fun hc => c ((M_in0 (by omega)).mp hc)), if_pos rfl, Option.bind_some, aw_zz_0]
    refine ⟨fun hn => absurd ?_ c, fun _ => rfl⟩
    exact ⟨fun hk => hn.1 (Or.inl hk), Classical.byContradiction fun hk => hn.1 (Or.inr (by omega))⟩
theorem M_octet (h : MR I L b φ sl cnt act last time cl D ou made taken af ar src) (hP : mP b ρ) (h6 : cnt ≤ 6) (hz : ∀ i, i < cnt → mZ (φ (sl.getD i 0))) (k i : Int32) (hint : Bool) : (pk_byte φ sl cnt k i hint → f_M_octet (s, pw_lay (pw_σ b) (I, L, ρ)) (some (b + 211)) k i (if hint then 1 else 0) = some (nI ((pk_row (φ (sl.getD k.toNatClampNeg 0)) hint).getD i.toNatClampNeg 0), (s, pw_lay (pw_σ b) (uI I (b + 211) 0 0, L, ρ)))) ∧ (¬ pk_byte φ sl cnt k i hint → f_M_octet (s, pw_lay (pw_σ b) (I, L, ρ)) (some (b + 211)) k i (if hint then 1 else 0) = some (0, (s, pw_lay (pw_σ b) (uI I (b + 211) 0 1, L, ρ)))) := by
  obtain ⟨r1, r2⟩ := M_isByte (s := s) h hP h6 hz k i hint
  unfold f_M_octet
  rw [mM_ob, Option.bind_some]
  refine ⟨fun hb => ?_, fun hb => ?_⟩
  · rw [r1 hb, Option.bind_some, if_neg (by decide), Option.bind_some, mw_0, Option.bind_some, mf_0, Option.bind_some, uI_at, if_pos (by decide)]
    obtain ⟨c1, c2, c3⟩ := hb
    have hlt : k.toNatClampNeg < cnt := Classical.byContradiction fun h => c1 (Or.inr (by omega))
    obtain ⟨-, -, h3, -⟩ := h.f0 0
    obtain ⟨j, hj, rfl⟩ := nI_of (show ¬ k < 0 from fun h => c1 (Or.inl h))
    obtain ⟨n, hn, rfl⟩ := nI_of c2
    rw [nI_clamp hj, nI_clamp hn] at c3
    rw [nI_clamp hj] at hlt ⊢
    rw [nI_clamp hn]
    obtain ⟨w1, w2⟩ := h3 j hlt
    have hzj := hz j hlt
    unfold pk_row at c3 ⊢
    cases hint with
    | false =>
      simp only [Bool.false_eq_true, if_false, if_true] at c3 ⊢
      have hz1 := hzj.1
      rw [mg_5 hP, Option.bind_some, nI_100, ma_215 (by omega), Option.bind_some, w2.2.2.1 n c3]
      rfl
    | true =>
      have e10 : ¬ (1 : Int32) = 0 := by decide
      simp only [if_true, if_neg e10] at c3 ⊢
      have hz1 := hzj.2.1
      rw [mg_8 hP, Option.bind_some, nI_120, nI_add, ma_218 (by omega), Option.bind_some, w2.2.2.2.2.2.1 n c3]
      rfl
  · rw [r2 hb, Option.bind_some, if_pos rfl, Option.bind_some, mw_0, Option.bind_some, mf_0, Option.bind_some, uI_at, if_neg (by decide)]
theorem mW.hset {i : Nat} {t : qf} (h : mW I b i t) {j : Nat} (hj : j < t.2.2.2.1.length) (x : Nat) : mW (uI I (b + 218) (120 * i + j) (nI x)) b i (t.1, t.2.1, t.2.2.1, t.2.2.2.1.set j x, t.2.2.2.2) := by
  obtain ⟨h1, h2, h3, h4, h5, h6, h7, h8⟩ := h
  have hne : t.2.2.2.1 ≠ [] := fun hc => by rw [hc] at hj; exact absurd hj (Nat.not_lt_zero _)
  have hne2 : t.2.2.2.1.set j x ≠ [] := fun hc => by
    have := congrArg List.length hc
    rw [List.length_set] at this
    rw [this] at hj
    exact absurd hj (Nat.not_lt_zero _)
  refine ⟨?_, ?_, fun k hk => ?_, ?_, fun hn => ?_, fun k hk => ?_, ?_, fun k r hr => ?_⟩
  · rw [uI_ne (by omega)]; exact h1
  · rw [uI_ne (by omega)]; exact h2
  · rw [uI_ne (by omega)]; exact h3 k hk
  · rw [uI_ne (by omega), h4, if_neg hne, if_neg hne2]
  · rw [uI_ne (by omega), List.length_set]; exact h5 hne
  · dsimp only at hk ⊢
    rw [List.length_set] at hk
    rw [getD_set hj]
    by_cases c : k = j
    · rw [c, uI_at, if_pos rfl]
    · rw [uI_ne (by omega), if_neg c]
      exact h6 k hk
  · rw [uI_ne (by omega)]; exact h7
  · rw [uI_ne (by omega), uI_ne (by omega), uI_ne (by omega)]; exact h8 k r hr
theorem M_spoil (h : MR I L b φ sl cnt act last time cl D ou made taken af ar src) (hP : mP b ρ) (ap : pk_ap sl ou) (h6 : cnt ≤ 6) (hm : 0 < taken → made ≤ 6) (hz : ∀ i, i < 6 → mZ (φ (sl.getD i 0)) ∧ mZ (φ (ou.getD i 0))) (hB : ∀ i, i < cnt → qB (φ (sl.getD i 0)).2.1 ∧ qB (φ (sl.getD i 0)).2.2.2.1) (k i : Int32) (hint : Bool) (bits : Int32) :
    (pk_byte φ sl cnt k i hint → ∃ I', f_M_spoil (s, pw_lay (pw_σ b) (I, L, ρ)) (some (b + 211)) k i (if hint then 1 else 0) bits = some (s, pw_lay (pw_σ b) (I', L, ρ)) ∧ I' (b + 211) 0 = 0 ∧ MR I' L b (pu φ (sl.getD k.toNatClampNeg 0) (pt_spoil (φ (sl.getD k.toNatClampNeg 0)) hint i.toNatClampNeg bits)) sl cnt act last time cl D ou made taken af ar src ∧ mfr I I' (fun a _ => mCM b a)) ∧
    (¬ pk_byte φ sl cnt k i hint → f_M_spoil (s, pw_lay (pw_σ b) (I, L, ρ)) (some (b + 211)) k i (if hint then 1 else 0) bits = some (s, pw_lay (pw_σ b) (uI I (b + 211) 0 1, L, ρ))) := by
  obtain ⟨r1, r2⟩ := M_isByte (s := s) h hP h6 (fun i hi => (hz i (by omega)).1) k i hint
  unfold f_M_spoil
  rw [mM_ob, Option.bind_some]
  refine ⟨fun hb => ?_, fun hb => ?_⟩
  · rw [r1 hb, Option.bind_some, if_neg (by decide), Option.bind_some, mw_0, Option.bind_some, mf_0, Option.bind_some, uI_at, if_pos (by decide)]
    obtain ⟨c1, c2, c3⟩ := hb
    have hlt : k.toNatClampNeg < cnt := Classical.byContradiction fun h => c1 (Or.inr (by omega))
    have h0 := h.f0 0
    obtain ⟨-, -, h3, -⟩ := h.f0 0
    have g0 : mfr I (uI I (b + 211) 0 0) (fun a _ => mCM b a) := mfr.uI (Q := fun a _ => mCM b a) ⟨by omega, by omega⟩
    obtain ⟨j, hj, rfl⟩ := nI_of (show ¬ k < 0 from fun h => c1 (Or.inl h))
    obtain ⟨n, hn, rfl⟩ := nI_of c2
    rw [nI_clamp hj, nI_clamp hn] at c3
    rw [nI_clamp hj] at hlt ⊢
    rw [nI_clamp hn]
    obtain ⟨w1, w2⟩ := h3 j hlt
    have hzj := (hz j (by omega)).1
    obtain ⟨hB1, hB2⟩ := hB j hlt
    unfold pk_row at c3
    unfold pt_spoil
    cases hint with
    | false =>
      simp only [Bool.false_eq_true, if_false, if_true] at c3 ⊢
      have hz1 := hzj.1
      have ex : nI ((φ (sl.getD j 0)).2.1.getD n 0) ^^^ (bits &&& 255) = nI (pn_xb ((φ (sl.getD j 0)).2.1.getD n 0) bits) := by
        rw [nI_m255, nI_xor]
        rfl
      rw [mg_5 hP, Option.bind_some, Option.bind_some, nI_100, ma_215 (by omega), Option.bind_some, w2.2.2.1 n c3, ex, ms_215 (by omega), Option.bind_some, Option.bind_some]
      refine ⟨_, rfl, by rw [uI_ne (by omega), uI_at], ?_, g0.trans (mfr.uI (Q := fun a _ => mCM b a) ⟨by omega, by omega⟩)⟩
      exact h0.row ap h6 hm hz hlt (by rfl) (mfr.uI (Q := fun a k => mC b j a k ∧ a ≠ b + 212) ⟨Or.inr (Or.inl ⟨rfl, by omega, by omega⟩), by omega⟩) (w2.set c3 _)
    | true =>
      have e10 : ¬ (1 : Int32) = 0 := by decide
      simp only [if_true, if_neg e10] at c3 ⊢
      have hz1 := hzj.2.1
      have ex : nI ((φ (sl.getD j 0)).2.2.2.1.getD n 0) ^^^ (bits &&& 255) = nI (pn_xb ((φ (sl.getD j 0)).2.2.2.1.getD n 0) bits) := by
        rw [nI_m255, nI_xor]
        rfl
      rw [mg_8 hP, Option.bind_some, Option.bind_some, nI_120, nI_add, ma_218 (by omega), Option.bind_some, w2.2.2.2.2.2.1 n c3, ex, ms_218 (by omega), Option.bind_some, Option.bind_some]
      refine ⟨_, rfl, by rw [uI_ne (by omega), uI_at], ?_, g0.trans (mfr.uI (Q := fun a _ => mCM b a) ⟨by omega, by omega⟩)⟩
      exact h0.row ap h6 hm hz hlt (by rfl) (mfr.uI (Q := fun a k => mC b j a k ∧ a ≠ b + 212) ⟨Or.inr (Or.inr (Or.inl ⟨rfl, by omega, by omega⟩)), by omega⟩) (w2.hset c3 _)
  · rw [r2 hb, Option.bind_some, if_pos rfl, Option.bind_some, mw_0, Option.bind_some, mf_0, Option.bind_some, uI_at, if_neg (by decide)]
end
