/-! ===== the reference is opened, on ===== -/
theorem pd_en_S (t : qf) (f : Nat) {D : List (Nat × Nat × Nat)} (h : dS D) : ∀ n, dS (pd_en t f n D)
  | 0 => h
  | n + 1 => (pd_en_S t f h n).en
theorem pd_op_S (φ : Nat → qf) (sl : List Nat) (hh : Bool) : ∀ i, dS (pd_op φ sl hh i)
  | 0 => List.Pairwise.nil
  | i + 1 => pd_en_S _ _ (pd_op_S φ sl hh i) _
theorem φo_num (φ : Nat → qf) (sl : List Nat) (hh : Bool) (f : Nat) : ∀ i, (φo φ sl hh i f).1 = (φ f).1
  | 0 => rfl
  | i + 1 => by
    rw [φo]
    by_cases c : f = sl.getD i 0
    · rw [c, pu_at, pt_learn_num]
    · rw [pu_ne c]
      exact φo_num φ sl hh f i
theorem pu_sync_num (φ : Nat → qf) (sl : List Nat) (cnt : Nat) (act : Bool) (f : Nat) : (pu_sync φ sl cnt act f).1 = (φ f).1 := by
  unfold pu_sync
  split
  · by_cases c : f = sl.getD (cnt - 1) 0
    · rw [c, pu_at]
      rfl
    · rw [pu_ne c]
  · rfl
theorem pd_op_pu (φ : Nat → qf) (sl : List Nat) (cnt : Nat) (act hh : Bool) : ∀ i, pd_op (pu_sync φ sl cnt act) sl hh i = pd_op φ sl hh i
  | 0 => rfl
  | i + 1 => by rw [pd_op, pd_op, pt_learn_pu, pd_op_pu φ sl cnt act hh i]
section
variable {I I' : mN} {L L' : mL} {ρ : mQ} {s : Option Nat} {b : Nat} {φ φ' : Nat → qf} {sl : List Nat} {cnt : Nat} {act : Bool} {last time : Nat} {cl : Bool} {D : List (Nat × Nat × Nat)} {ou : List Nat} {made taken af ar : Nat} {src : Nat → Nat → Nat × Nat}
theorem M_open (h : MR I L b φ sl cnt act last time cl D ou made taken af ar src) (hP : mP b ρ) (ap : pk_ap sl ou) (h6 : cnt ≤ 6) (hz : ∀ i, i < cnt → mZ (φ (sl.getD i 0)) ∧ qV (φ (sl.getD i 0)) ∧ (φ (sl.getD i 0)).1 < 2 ^ 20) (hh : Bool) :
    ∃ I' L', f_M_open (s, pw_lay (pw_σ b) (I, L, ρ)) (some (b + 211)) (if hh then 1 else 0) = some (nI (pd_op (pu_sync φ sl cnt act) sl hh cnt).length, (s, pw_lay (pw_σ b) (I', L', ρ))) ∧ MR I' L' b (φo (pu_sync φ sl cnt act) sl hh cnt) sl cnt false last time false (pd_op (pu_sync φ sl cnt act) sl hh cnt) ou made 0 af ar src ∧ mfr I I' (fun a _ => mCM b a) ∧ ∀ a, a ≠ b + 225 → L' a = L a := by
  obtain ⟨⟨a1, a2, a3, a4⟩, h2, h3, -, -⟩ := h
  have hlen : ∀ i, i ≤ cnt → (pd_op φ sl hh i).length ≤ 11 * i := by
    intro i
    induction i with
    | zero => intro _; exact Nat.zero_le _
    | succ i ih =>
      intro hi
      have h1 := ih (by omega)
      obtain ⟨-, -, -, l4⟩ := pt_learn_V (hz i (by omega)).2.1 (hz i (by omega)).1.1 hh
      have h2 := pd_en_len (pt_learn (φ (sl.getD i 0)) hh) (sl.getD i 0) (pd_op φ sl hh i) (pt_learn (φ (sl.getD i 0)) hh).2.2.2.2.length
      rw [pd_op]
      omega
  rw [pd_op_pu]
  unfold f_M_open
  rw [mw_0, Option.bind_some, mw_15, Option.bind_some]
  refine pw_loopG (G := fun x => ∃ I' L', x = some (nI (pd_op φ sl hh cnt).length, (s, pw_lay (pw_σ b) (I', L', ρ))) ∧ MR I' L' b (φo (pu_sync φ sl cnt act) sl hh cnt) sl cnt false last time false (pd_op φ sl hh cnt) ou made 0 af ar src ∧ mfr I I' (fun a _ => mCM b a) ∧ ∀ a, a ≠ b + 225 → L' a = L a) cnt
    (fun m a => ∃ i I1 L1, a = (nI i, (s, pw_lay (pw_σ b) (I1, L1, ρ))) ∧ i + m = cnt ∧ (∀ c, c ≠ 0 → c ≠ 15 → I1 (b + 211) c = I (b + 211) c) ∧ (∀ j, j < cnt → I1 (b + 212) j = nI (φ (sl.getD j 0)).1 ∧ mW I1 b j (if j < i then pt_learn (φ (sl.getD j 0)) hh else φ (sl.getD j 0))) ∧ (∃ n E, mDir I1 L1 b n E ∧ dR (fun f => (φ f).1) n E (pd_op φ sl hh i)) ∧ mfr I I1 (fun a _ => mCM b a) ∧ ∀ a, a ≠ b + 225 → L1 a = L a)
    (fun a => ∃ i I1 L1, a = (i, (s, pw_lay (pw_σ b) (I1, L1, ρ))) ∧ (∀ c, c ≠ 0 → c ≠ 15 → I1 (b + 211) c = I (b + 211) c) ∧ (∀ j, j < cnt → I1 (b + 212) j = nI (φ (sl.getD j 0)).1 ∧ mW I1 b j (pt_learn (φ (sl.getD j 0)) hh)) ∧ (∃ n E, mDir I1 L1 b n E ∧ dR (fun f => (φ f).1) n E (pd_op φ sl hh cnt)) ∧ mfr I I1 (fun a _ => mCM b a) ∧ ∀ a, a ≠ b + 225 → L1 a = L a) ?_ ?_ ?_
  · refine ⟨0, _, L, rfl, Nat.zero_add _, fun c c0 c15 => ?_, fun j hj => ⟨?_, ?_⟩, ⟨0, fun _ => (0, 0, 0, 0), ⟨uI_at, Nat.zero_le _, fun j hj => absurd hj (Nat.not_lt_zero _)⟩, ⟨rfl, fun j hj => absurd hj (Nat.not_lt_zero _), fun e he => (by cases he), fun j hj => absurd hj (Nat.not_lt_zero _), fun j _ hj => absurd hj (Nat.not_lt_zero _)⟩⟩, (mfr.uI (Q := fun a _ => mCM b a) ⟨by omega, by omega⟩).trans (mfr.uI (Q := fun a _ => mCM b a) ⟨by omega, by omega⟩), fun _ _ => rfl⟩
    · rw [uI_ne (by omega), uI_ne (by omega)]
    · rw [uI_ne (by omega), uI_ne (by omega)]
      exact (h3 j hj).1
    · rw [if_neg (Nat.not_lt_zero _)]
      exact ((h3 j hj).2.fld _ _).fld _ _
  · rintro m a ⟨i, I1, L1, rfl, him, f1, rows, d1, g1, l1⟩
    dsimp only
    rw [mf_1, Option.bind_some, f1 1 (by decide) (by decide), a1]
    by_cases c : i < cnt
    · obtain ⟨n1, w1⟩ := rows i c
      rw [if_neg (Nat.lt_irrefl i)] at w1
      obtain ⟨z1, z2, z3⟩ := hz i c
      have hli := hlen i (by omega)
      obtain ⟨I2, L2, x1, x2, x3, x4, x5⟩ := M_openRow (s := s) (nm := fun f => (φ f).1) (f := sl.getD i 0) hP w1 z1 z2 (by omega) n1 z3 d1 (pd_op_S φ sl hh i) (by omega) hh
      have fl : ∀ c, c ≠ 15 → I2 (b + 211) c = I1 (b + 211) c := fun c hc => x4 _ _ (fun h => by
        rcases h with h | h
        · have := h.1; unfold mC at this; omega
        · unfold mCd at h; omega)
      left
      refine ⟨m - 1, (nI (i + 1), (s, pw_lay (pw_σ b) (I2, L2, ρ))), by omega, ?_, i + 1, I2, L2, rfl, by omega, fun c c0 c15 => (fl c c15).trans (f1 c c0 c15), fun j hj => ⟨?_, ?_⟩, x3, g1.trans (x4.mono (fun a c h => ?_)), fun a ha => (x5 a ha).trans (l1 a ha)⟩
      · rw [if_neg (nI_ge c (by omega))]
        cases hX : ((if (if hh then (1 : Int32) else 0) = 0 then
          (aw_obj (s, pw_lay (pw_σ b) (I1, L1, ρ)) (some (b + 211)) 7).bind fun v5 =>
          (f_M_openRecords (s, pw_lay (pw_σ b) (I1, L1, ρ)) (some (b + 211)) (nI i)).bind fun v6 =>
          some v6
        else
          (aw_obj (s, pw_lay (pw_σ b) (I1, L1, ρ)) (some (b + 211)) 7).bind fun v7 =>
          (f_M_tells (s, pw_lay (pw_σ b) (I1, L1, ρ)) (some (b + 211)) (nI i)).bind fun v8 =>
          if v8.1 = 0 then
            (aw_obj v8.2 (some (b + 211)) 7).bind fun v9 =>
            (f_M_openRecords v8.2 (some (b + 211)) (nI i)).bind fun v10 =>
            some v10
          else
            (aw_obj v8.2 (some (b + 211)) 7).bind fun v11 =>
            (f_M_openHint v8.2 (some (b + 211)) (nI i)).bind fun v12 =>
            some v12 : Option (aw_W))) with
        | none => rw [hX] at x1; cases x1
        | some w =>
          rw [hX, Option.bind_some] at x1
          rw [Option.bind_some]
          cases h4 : aw_gR w (some (b + 211)) 7 4 with
          | none => rw [h4] at x1; cases x1
          | some v14 =>
            rw [h4, Option.bind_some] at x1
            rw [Option.bind_some]
            cases h5 : aw_gR w (some (b + 211)) 7 3 with
            | none => rw [h5] at x1; cases x1
            | some v15 =>
              rw [h5, Option.bind_some] at x1
              rw [Option.bind_some]
              cases h7 : aw_aI w v15 1 (nI i) with
              | none => rw [h7] at x1; cases x1
              | some v16 =>
                rw [h7, Option.bind_some] at x1
                rw [Option.bind_some, x1, Option.bind_some, nI_1]
      · rw [x4 _ _ (fun h => by
          rcases h with h | h
          · exact h.2 rfl
          · unfold mCd at h; omega)]
        exact (rows j hj).1
      · by_cases cj : j = i
        · rw [cj, if_pos (Nat.lt_succ_self i)]
          exact x2
        · have hw := (rows j hj).2
          have hzj : mZ (if j < i then pt_learn (φ (sl.getD j 0)) hh else φ (sl.getD j 0)) := by
            split
            · obtain ⟨q1, q2, q3⟩ := hz j hj
              obtain ⟨-, l2, -, l4⟩ := pt_learn_V q2 q1.1 hh
              refine ⟨l2, ?_, l4⟩
              unfold pt_learn
              split <;> exact q1.2.1
            · exact (hz j hj).1
          have := hw.fr hzj x4 (fun a c hc h => by
            rcases h with h | h
            · exact mC_ne cj hc h.1
            · exact mC_d hc h)
          by_cases cji : j < i
          · rw [if_pos cji] at this
            rw [if_pos (by omega)]
            exact this
          · rw [if_neg cji] at this
            rw [if_neg (by omega)]
            exact this
      · rcases h with h | h
        · have := h.1; unfold mC at this; unfold mCM; omega
        · unfold mCd at h; unfold mCM; omega
    · right
      have hi : i = cnt := by omega
      subst hi
      refine ⟨_, if_pos (nI_le (by omega) (by omega)), _, I1, L1, rfl, f1, fun j hj => ?_, d1, g1, l1⟩
      have := rows j hj
      rw [if_pos hj] at this
      exact this
  · rintro a ⟨i, I1, L1, rfl, f1, rows, ⟨n, E, d1, d2⟩, g1, l1⟩
    dsimp only
    rw [mw_20, Option.bind_some, mw_24, Option.bind_some, mw_21, Option.bind_some, mf_15, Option.bind_some]
    refine ⟨uI (uI (uI I1 (b + 211) 20 0) (b + 211) 24 0) (b + 211) 21 0, L1, ?_, ⟨⟨?_, ?_, ?_, ?_⟩, uI_at, fun j hj => ?_, ⟨n, E, ((d1.fld (by decide) _).fld (by decide) _).fld (by decide) _, d2.renm (fun e _ => ?_)⟩, ?_, fun ht => absurd ht (Nat.lt_irrefl 0)⟩, ((g1.trans (mfr.uI (Q := fun a _ => mCM b a) ⟨by omega, by omega⟩)).trans (mfr.uI (Q := fun a _ => mCM b a) ⟨by omega, by omega⟩)).trans (mfr.uI (Q := fun a _ => mCM b a) ⟨by omega, by omega⟩), l1⟩
    · rw [uI_ne (by omega), uI_ne (by omega), uI_ne (by omega), d1.1, d2.1]
    · rw [uI_ne (by omega), uI_ne (by omega), uI_ne (by omega), f1 1 (by decide) (by decide)]; exact a1
    · rw [uI_ne (by omega), uI_ne (by omega), uI_at]; rfl
    · rw [uI_ne (by omega), uI_ne (by omega), uI_ne (by omega), f1 22 (by decide) (by decide)]; exact a3
    · rw [uI_ne (by omega), uI_ne (by omega), uI_ne (by omega), f1 23 (by decide) (by decide)]; exact a4
    · obtain ⟨w1, w2⟩ := rows j hj
      obtain ⟨-, fy2⟩ := φo_at (φ := pu_sync φ sl cnt act) (h := hh) ap.2.2.1 cnt h6
      rw [fy2 j hj, pt_learn_pu]
      refine ⟨?_, ((w2.fld _ _).fld _ _).fld _ _⟩
      rw [uI_ne (by omega), uI_ne (by omega), uI_ne (by omega), w1, pt_learn_num]
    · show (φo (pu_sync φ sl cnt act) sl hh cnt e.2.1).1 = (φ e.2.1).1
      rw [φo_num, pu_sync_num]
    · rw [uI_ne (by omega), uI_at]; rfl
end
