/-! ===== the reference's calls: put, delete, get, keys ===== -/
/-- the outputs' rows -/
def mOut (I : mN) (b : Nat) (φ : Nat → qf) (ou : List Nat) (made : Nat) (src : Nat → Nat → Nat × Nat) : Prop := ∀ o, o < made → mW I b (6 + o) (φ (ou.getD o 0)) ∧ ∀ j, j < (φ (ou.getD o 0)).2.2.2.2.length → I (b + 223) (12 * (6 + o) + j) = nI (φ (src o j).1).1 ∧ I (b + 224) (12 * (6 + o) + j) = nI (src o j).2
def mMg (I : mN) (b : Nat) (φ : Nat → qf) (ou : List Nat) (made taken af ar : Nat) (src : Nat → Nat → Nat × Nat) : Prop := (I (b + 211) 24 = if taken = 0 then 0 else 1) ∧ (0 < taken → I (b + 211) 25 = nI taken ∧ I (b + 211) 26 = nI af ∧ I (b + 211) 27 = nI ar ∧ I (b + 211) 28 = nI made ∧ mOut I b φ ou made src)
/-- the reference beside the store -/
def MR (I : mN) (L : mL) (b : Nat) (φ : Nat → qf) (sl : List Nat) (cnt : Nat) (act : Bool) (last time : Nat) (cl : Bool) (D : List (Nat × Nat × Nat)) (ou : List Nat) (made taken af ar : Nat) (src : Nat → Nat → Nat × Nat) : Prop :=
  mFl I b cnt act last time ∧ (I (b + 211) 21 = if cl then 1 else 0) ∧ mF I b φ sl cnt ∧ (∃ n E, mDir I L b n E ∧ dR (fun f => (φ f).1) n E D) ∧ mMg I b φ ou made taken af ar src
theorem M_in {w : aw_W} {p lo hi : Int32} : f_M_in w p lo hi = some (if ¬ p < lo ∧ p ≤ hi then 1 else 0) := by
  unfold f_M_in
  by_cases h1 : p < lo
  · rw [if_pos h1, if_neg (fun h => h.1 h1), Option.bind_some, aw_zz_0]
    rfl
  · rw [if_neg h1]
    by_cases h2 : p ≤ hi
    · rw [if_neg (fun h => by rw [Int32.lt_iff_toInt_lt] at h; rw [Int32.le_iff_toInt_le] at h2; omega), if_pos ⟨h1, h2⟩, Option.bind_some, aw_zz_1]
      rfl
    · rw [if_pos (by rw [Int32.le_iff_toInt_le] at h2; rw [Int32.lt_iff_toInt_lt]; omega), if_neg (fun h => h2 h.2), Option.bind_some, aw_zz_0]
      rfl
section
variable {I I' : mN} {L L' : mL} {ρ : mQ} {s : Option Nat} {b : Nat} {φ φ' : Nat → qf} {sl : List Nat} {cnt : Nat} {act : Bool} {last time : Nat} {cl : Bool} {D : List (Nat × Nat × Nat)} {ou : List Nat} {made taken af ar : Nat} {src : Nat → Nat → Nat × Nat}
theorem mF.fld (h : mF I b φ sl cnt) (k : Nat) (x : Int32) : mF (uI I (b + 211) k x) b φ sl cnt := fun i hi => ⟨by rw [uI_ne (by omega)]; exact (h i hi).1, (h i hi).2.fld k x⟩
theorem mOut.fld (h : mOut I b φ ou made src) (k : Nat) (x : Int32) : mOut (uI I (b + 211) k x) b φ ou made src := fun o ho => ⟨(h o ho).1.fld k x, fun j hj => by rw [uI_ne (by omega), uI_ne (by omega)]; exact (h o ho).2 j hj⟩
theorem mDir.fld {n : Nat} {E : qE} (h : mDir I L b n E) {k : Nat} (hk : k ≠ 15) (x : Int32) : mDir (uI I (b + 211) k x) L b n E := h.fr (mfr.uI (Q := fun a c => a = b + 211 ∧ c = k) ⟨rfl, rfl⟩) (fun a c ha hc => by omega)
/-- what was thrown is no part of it -/
theorem MR.f0 (h : MR I L b φ sl cnt act last time cl D ou made taken af ar src) (x : Int32) : MR (uI I (b + 211) 0 x) L b φ sl cnt act last time cl D ou made taken af ar src := by
  obtain ⟨⟨a1, a2, a3, a4⟩, h2, h3, ⟨n, E, h4, h5⟩, h6, h7⟩ := h
  refine ⟨⟨?_, ?_, ?_, ?_⟩, ?_, h3.fld _ _, ⟨n, E, h4.fld (by decide) _, h5⟩, ?_, fun ht => ?_⟩
  · rw [uI_ne (by omega)]; exact a1
  · rw [uI_ne (by omega)]; exact a2
  · rw [uI_ne (by omega)]; exact a3
  · rw [uI_ne (by omega)]; exact a4
  · rw [uI_ne (by omega)]; exact h2
  · rw [uI_ne (by omega)]; exact h6
  · obtain ⟨c1, c2, c3, c4, c5⟩ := h7 ht
    refine ⟨?_, ?_, ?_, ?_, c5.fld _ _⟩
    · rw [uI_ne (by omega)]; exact c1
    · rw [uI_ne (by omega)]; exact c2
    · rw [uI_ne (by omega)]; exact c3
    · rw [uI_ne (by omega)]; exact c4
theorem M_full (h : MR I L b φ sl cnt act last time cl D ou made taken af ar src) (hP : mP b ρ) (h6 : cnt ≤ 6) (hz : ∀ i, i < cnt → mZ (φ (sl.getD i 0))) {z : Nat} (hz2 : z ≤ 100) : (¬ pk_fit φ sl cnt act z → cnt = 6 → f_M_full (s, pw_lay (pw_σ b) (I, L, ρ)) (some (b + 211)) (nI z) = some 1) ∧ (pk_fit φ sl cnt act z ∨ cnt < 6 → f_M_full (s, pw_lay (pw_σ b) (I, L, ρ)) (some (b + 211)) (nI z) = some 0) := by
  obtain ⟨⟨a1, a2, a3, a4⟩, -, h3, -⟩ := h
  unfold f_M_full
  rw [mf_1, Option.bind_some, a1]
  by_cases c6 : cnt = 6
  · rw [if_pos (by rw [c6]; rfl), mf_20, Option.bind_some, a2]
    cases act with
    | false =>
      refine ⟨fun _ _ => ?_, fun hc => absurd hc (fun hc => hc.elim (fun h => nomatch h.1) (by omega))⟩
      simp only [Bool.false_eq_true, if_false, if_true, Option.bind_some, aw_zz_1]
    | true =>
      obtain ⟨-, w⟩ := h3 5 (by omega)
      have hzz := (hz 5 (by omega)).1
      have e10 : ¬ (1 : Int32) = 0 := by decide
      have hpf : pk_fit φ sl cnt true z ↔ (φ (sl.getD 5 0)).2.1.length + z ≤ 100 := by
        unfold pk_fit
        rw [c6]
        exact ⟨fun h => h.2, fun h => ⟨rfl, h⟩⟩
      simp only [if_true, if_neg e10]
      rw [mg_3 hP, Option.bind_some, show (5 : Int32) = nI 5 from rfl, ma_213 (by decide), Option.bind_some, w.1, nI_add]
      refine ⟨fun nf _ => ?_, fun hc => ?_⟩
      · rw [if_neg (show ¬ nI ((φ (sl.getD 5 0)).2.1.length + z) ≤ 100 from fun hc => nf (hpf.mpr ((nI_leI (b := 100) (by omega) (by decide)).mp hc))), Option.bind_some, aw_zz_1]
        rfl
      · have := hpf.mp (hc.elim id (fun h => by omega))
        rw [if_pos (show nI ((φ (sl.getD 5 0)).2.1.length + z) ≤ 100 from nI_le (b := 100) this (by decide)), Option.bind_some, aw_zz_0]
        rfl
  · rw [if_neg (show ¬ nI cnt = (6 : Int32) from fun hc => c6 ((nI_eq (b := 6) (by omega) (by decide)).mp hc)), Option.bind_some, aw_zz_0]
    exact ⟨fun _ h => absurd h c6, fun _ => rfl⟩
theorem mOut.fr {Q : Nat → Nat → Prop} (h : mOut I b φ ou made src) (hm : made ≤ 6) (hz : ∀ o, o < 6 → mZ (φ (ou.getD o 0))) (g : mfr I I' Q) (hQ : ∀ o a k, o < 6 → mC b (6 + o) a k → ¬ Q a k) (hφ : ∀ o, o < 6 → φ' (ou.getD o 0) = φ (ou.getD o 0)) (hs : ∀ o j, o < made → j < (φ (ou.getD o 0)).2.2.2.2.length → (φ' (src o j).1).1 = (φ (src o j).1).1) : mOut I' b φ' ou made src := fun o ho => by
  obtain ⟨w, hj⟩ := h o ho
  rw [hφ o (by omega)]
  have hzo := hz o (by omega)
  refine ⟨w.fr hzo g (fun a k hc => hQ o a k (by omega) hc), fun j hj' => ?_⟩
  have h11 := hzo.2.2
  rw [g _ _ (hQ o (b + 223) (12 * (6 + o) + j) (by omega) (Or.inr (Or.inr (Or.inr ⟨by omega, by omega, by omega⟩)))), g _ _ (hQ o (b + 224) (12 * (6 + o) + j) (by omega) (Or.inr (Or.inr (Or.inr ⟨by omega, by omega, by omega⟩)))), hs o j ho hj']
  exact hj j hj'
/-- an entering that follows an append -/
theorem M_entered (hP : mP b ρ) {n : Nat} {E : qE} (hd : mDir I L b n E) (hr : dR (fun f => (φ f).1) n E D) (hs : dS D) (hl : D.length < 66) {k x f i : Nat} (h1 : 1 ≤ k) (h4 : k ≤ 4) (hx : x < 2 ^ (8 * k)) (hfn : (φ f).1 < 2 ^ 20) (hi : i < 2 ^ 20) :
    (∃ I' L', f_M_set (s, pw_lay (pw_σ b) (I, L, ρ)) (some (b + 211)) (lN x) (nI k) (nI (φ f).1) (nI i) = some (s, pw_lay (pw_σ b) (I', L', ρ)) ∧ (∃ n' E', mDir I' L' b n' E' ∧ dR (fun f => (φ f).1) n' E' (pe_en (pn_rank k x) (f, i) false D)) ∧ mfr I I' (mCd b) ∧ ∀ a, a ≠ b + 225 → L' a = L a) ∧
    (∃ I' L', f_M_unset (s, pw_lay (pw_σ b) (I, L, ρ)) (some (b + 211)) (lN x) (nI k) = some (s, pw_lay (pw_σ b) (I', L', ρ)) ∧ (∃ n' E', mDir I' L' b n' E' ∧ dR (fun f => (φ f).1) n' E' (pe_en (pn_rank k x) (f, i) true D)) ∧ mfr I I' (mCd b) ∧ ∀ a, a ≠ b + 225 → L' a = L a) := by
  have hx32 : x < 2 ^ 32 := Nat.lt_of_lt_of_le hx (Nat.pow_le_pow_right (by decide) (by omega))
  have hn : n < 66 := by rw [hr.1]; exact hl
  have hLo : ∀ (j : Nat) (y : Int64) a, a ≠ b + 225 → uL L (b + 225) j y a = L a := fun j y a ha => funext fun q => uL_ne (by omega)
  cases hq : pe_find (pn_rank k x) D with
  | none =>
    have hno := hr.nope hs hq
    obtain ⟨I1, e1, d1, g1⟩ := M_set_new (s := s) hP hd hx32 (by omega) hno hn hfn hi
    have e2 := M_unset_no (s := s) hP hd hx32 (by omega) hno
    exact ⟨⟨I1, _, e1, ⟨_, _, d1, hr.set_new hs h1 h4 hx hq⟩, g1, hLo _ _⟩, ⟨I, L, e2, ⟨n, E, hd, hr.unset_no hs hq⟩, mfr.rfl, fun _ _ => rfl⟩⟩
  | some q =>
    obtain ⟨j, hj, a1, a2, -⟩ := hr.find h1 h4 hq
    obtain ⟨I1, e1, d1, g1⟩ := M_set_at (s := s) hP hd hr.inj hj a1 a2 hfn hi
    obtain ⟨m, rfl⟩ : ∃ m, n = m + 1 := ⟨n - 1, by omega⟩
    obtain ⟨I2, e2, d2, g2⟩ := M_unset_at (s := s) hP hd hr.inj hj a1 a2
    exact ⟨⟨I1, L, e1, ⟨_, _, d1, hr.set_at hs hq hj a1 a2⟩, g1, fun _ _ => rfl⟩, ⟨I2, _, e2, ⟨_, _, d2, hr.unset_at hs hq hj a1 a2⟩, g2, hLo _ _⟩⟩
end
