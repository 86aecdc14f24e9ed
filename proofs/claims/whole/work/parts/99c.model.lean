/-! ===== the reference begins anew from hints ===== -/
/-- where the entry n of a hint begins -/
def pn_hq : List qr → Nat → Nat
  | _, 0 => 0
  | [], _ + 1 => 0
  | r :: t, n + 1 => 5 + r.2.1 + pn_hq t n
theorem pn_hq_succ : ∀ {rs : List qr} {n : Nat} {r : qr}, rs[n]? = some r → pn_hq rs (n + 1) = pn_hq rs n + (5 + r.2.1)
  | [], n, r, h => by cases h
  | q :: t, n, r, h => by
    cases n with
    | zero => cases h; cases t <;> simp [pn_hq]
    | succ n =>
      have h' : t[n]? = some r := h
      rw [pn_hq, pn_hq_succ h', pn_hq]
      omega
theorem pn_ht_keys {H : List Nat} {e n : Nat} : ∀ m p q rs, pn_ht H e n m p q = some rs → ∀ j r, rs[j]? = some r → r.2.2.1 = pn_num (fun i => H.getD i 0) (q + pn_hq rs j + 5) r.2.1 ∧ q + pn_hq rs j + 5 + r.2.1 ≤ e
  | 0, p, q, rs, h, j, r, hr => by
    rw [pn_ht] at h
    split at h
    · cases h; cases hr
    · cases h
  | m + 1, p, q, rs, h, j, r, hr => by
    rw [pn_ht] at h
    split at h
    · split at h
      · cases h; cases hr
      · cases h
    · split at h
      · next c =>
        obtain ⟨c1, c2, c3, c4, c5, c6⟩ := c
        cases hq : pn_ht H e n m (p + pn_len (H.getD (q + 2) 0) (H.getD (q + 3) 0)) (q + 5 + H.getD (q + 2) 0) with
        | none => rw [hq] at h; cases h
        | some t =>
          rw [hq] at h
          cases h
          cases j with
          | zero =>
            cases hr
            simp only [pn_hq]
            exact ⟨trivial, by omega⟩
          | succ j =>
            have hr' : t[j]? = some r := hr
            have := pn_ht_keys m _ _ t hq j r hr'
            rw [pn_hq]
            dsimp only
            rw [show q + (5 + H.getD (q + 2) 0 + pn_hq t j) + 5 = q + 5 + H.getD (q + 2) 0 + pn_hq t j + 5 by omega]
            exact this
      · cases h
section
variable {I I' : mN} {L L' : mL} {ρ : mQ} {s : Option Nat} {b n i : Nat} {E : qE} {t : qf} {D : List (Nat × Nat × Nat)} {nm : Nat → Nat}
theorem M_tells (hP : mP b ρ) (h : mW I b i t) (hz : mZ t) (hH : qB t.2.2.2.1) (h4 : t.2.2.2.1 = [] ∨ 4 ≤ t.2.2.2.1.length) (hi : i < 12) :
    ∃ a I' rs, f_M_tells (s, pw_lay (pw_σ b) (I, L, ρ)) (some (b + 211)) (nI i) = some (a, (s, pw_lay (pw_σ b) (I', L, ρ))) ∧ mW I' b i (t.1, t.2.1, t.2.2.1, t.2.2.2.1, rs) ∧ rs.length ≤ 11 ∧ mfr I I' (fun a c => mC b i a c ∧ a ≠ b + 212) ∧ ((a = 1 ∧ pn_hint t.2.2.2.1 t.2.1.length = some rs) ∨ (a = 0 ∧ pn_hint t.2.2.2.1 t.2.1.length = none)) := by
  have hlB := hz.1
  have hlH := hz.2.1
  have w0 := h.count0
  have g0 : mfr I (uI I (b + 219) i 0) (fun a c => mC b i a c ∧ a ≠ b + 212) := mfr.uI (Q := fun a c => mC b i a c ∧ a ≠ b + 212) ⟨Or.inl ⟨by omega, rfl⟩, by omega⟩
  unfold f_M_tells
  rw [mg_9 hP, Option.bind_some, ms_219 hi, Option.bind_some, mg_7 hP, Option.bind_some, ma_217 hi, Option.bind_some, mg_6 hP, Option.bind_some, ma_216 hi, Option.bind_some, w0.2.2.2.1]
  generalize hR : pn_hint t.2.2.2.1 t.2.1.length = R
  unfold pn_hint at hR
  by_cases ch : t.2.2.2.1 = []
  · rw [if_pos (by rw [ch]; decide)] at hR
    rw [if_pos ch, if_pos rfl]
    exact ⟨0, _, [], rfl, w0, Nat.zero_le _, g0, Or.inr ⟨rfl, hR.symm⟩⟩
  · have hl4 : 4 ≤ t.2.2.2.1.length := h4.elim (fun h => absurd h ch) id
    rw [if_neg (by omega)] at hR
    rw [if_neg ch, if_neg (by decide), w0.2.2.2.2.1 ch]
    dsimp only
    obtain ⟨e, he⟩ : ∃ e, t.2.2.2.1.length = e + 4 := ⟨t.2.2.2.1.length - 4, by omega⟩
    have hend : nI (120 * i) + nI t.2.2.2.1.length - (4 : Int32) = nI (120 * i + e) := by
      rw [he, nI_add, show 120 * i + (e + 4) = (120 * i + e) + 4 by omega, ← nI_add]
      exact Int32.add_sub_cancel _ _
    rw [show t.2.2.2.1.length - 4 = e by omega] at hR
    have e1 := M_hnum (s := s) (L := L) (ρ := ρ) w0 hi hH hlH (p := e) (k := 4) (by dsimp only; omega)
    have e2 := M_hsum (s := s) (L := L) (ρ := ρ) w0 hi hH hlH (p := 0) (k := e) (by dsimp only; omega)
    dsimp only at e1 e2
    have b1 := pn_num_lt hH.getD e 4
    have b2 := pn_sum_lt hH.getD 0 e
    rw [nI_120, hend, mg_8 hP, Option.bind_some, show (4 : Int32) = nI 4 from rfl, e1, Option.bind_some, Option.bind_some, show 120 * i = 120 * i + 0 from rfl, e2, Option.bind_some]
    by_cases cs : pn_num (fun c => t.2.2.2.1.getD c 0) e 4 = pn_sum (fun c => t.2.2.2.1.getD c 0) 0 e
    · rw [if_pos cs] at hR
      rw [if_pos ((lg_cmp_eq _ _).mpr ((lN_eq63 (by omega) (by omega)).mpr cs))]
      refine pw_loopG (G := fun x => ∃ a I' rs, x = some (a, (s, pw_lay (pw_σ b) (I', L, ρ))) ∧ mW I' b i (t.1, t.2.1, t.2.2.1, t.2.2.2.1, rs) ∧ rs.length ≤ 11 ∧ mfr I I' (fun a c => mC b i a c ∧ a ≠ b + 212) ∧ ((a = 1 ∧ R = some rs) ∨ (a = 0 ∧ R = none))) 11
        (fun m a => ∃ p q j I1 rs, a = (nI p, nI (120 * i + q), (s, pw_lay (pw_σ b) (I1, L, ρ))) ∧ mW I1 b i (t.1, t.2.1, t.2.2.1, t.2.2.2.1, rs) ∧ rs.length = j ∧ mfr I I1 (fun a c => mC b i a c ∧ a ≠ b + 212) ∧ j + m = 11 ∧ 9 * j ≤ p ∧ p ≤ 100 ∧ q ≤ e ∧ (pn_ht t.2.2.2.1 e t.2.1.length m p q).map (fun l => rs ++ l) = R)
        (fun r => match r with
          | .inl a => ∃ p q I1 rs, a = (nI p, nI (120 * i + q), (s, pw_lay (pw_σ b) (I1, L, ρ))) ∧ mW I1 b i (t.1, t.2.1, t.2.2.1, t.2.2.2.1, rs) ∧ rs.length ≤ 11 ∧ mfr I I1 (fun a c => mC b i a c ∧ a ≠ b + 212) ∧ p ≤ 100 ∧ q ≤ e ∧ R = if q = e ∧ p = t.2.1.length then some rs else none
          | .inr a => ∃ I1 rs, a = (0, (s, pw_lay (pw_σ b) (I1, L, ρ))) ∧ mW I1 b i (t.1, t.2.1, t.2.2.1, t.2.2.2.1, rs) ∧ rs.length ≤ 11 ∧ mfr I I1 (fun a c => mC b i a c ∧ a ≠ b + 212) ∧ R = none) ?_ ?_ ?_
      · refine ⟨0, 0, 0, _, [], rfl, w0, rfl, g0, rfl, Nat.le_refl _, Nat.zero_le _, Nat.zero_le _, ?_⟩
        rw [← hR]
        cases pn_ht t.2.2.2.1 e t.2.1.length 11 0 0 <;> rfl
      · rintro m a ⟨p, q, j, I1, rs, rfl, w1, hj, g1, hjm, h9, hp, hqe, hc⟩
        dsimp only
        rw [show nI (120 * i + q) + (5 : Int32) = nI (120 * i + (q + 5)) from nI_add _ 5]
        by_cases cx : e ≤ q + 5
        · right
          refine ⟨_, if_pos (nI_le (by omega) (by omega)), p, q, I1, rs, rfl, w1, by omega, g1, hp, hqe, ?_⟩
          rw [← hc]
          cases m with
          | zero =>
            rw [pn_ht]
            split <;> simp
          | succ m =>
            rw [pn_ht]
            by_cases cq : e ≤ q
            · rw [if_pos cq]
              split <;> simp
            · rw [if_neg cq, if_neg (fun hx => by have := hx.1; have := hx.2.2.2.2.1; omega), if_neg (by omega)]
              rfl
        · have b2' := w1.2.2.2.2.2.1 (q + 2) (by dsimp only; omega)
          have b3' := w1.2.2.2.2.2.1 (q + 3) (by dsimp only; omega)
          have b4' := w1.2.2.2.2.2.1 (q + 4) (by dsimp only; omega)
          dsimp only at b2' b3' b4'
          have hk := hH.getD (q + 2)
          have hv := hH.getD (q + 3)
          have hpl := hH.getD (q + 4)
          rw [if_neg (nI_ge (by omega) (by omega)), mg_8 hP, Option.bind_some, show nI (120 * i + q) + (2 : Int32) = nI (120 * i + (q + 2)) from nI_add _ 2, ma_218 (by omega), Option.bind_some, b2', Option.bind_some, show nI (120 * i + q) + (3 : Int32) = nI (120 * i + (q + 3)) from nI_add _ 3, ma_218 (by omega), Option.bind_some, b3', M_in, Option.bind_some]
          have ek : (¬ nI (t.2.2.2.1.getD (q + 2) 0) < (1 : Int32) ∧ nI (t.2.2.2.1.getD (q + 2) 0) ≤ nI 4) ↔ 1 ≤ t.2.2.2.1.getD (q + 2) 0 ∧ t.2.2.2.1.getD (q + 2) 0 ≤ 4 := by
            rw [show (nI (t.2.2.2.1.getD (q + 2) 0) < (1 : Int32)) ↔ t.2.2.2.1.getD (q + 2) 0 < 1 from nI_ltI (b := 1) (by omega) (by decide), nI_leI (by omega) (by decide)]
            omega
          have bad : ¬ (1 ≤ t.2.2.2.1.getD (q + 2) 0 ∧ t.2.2.2.1.getD (q + 2) 0 ≤ 4 ∧ t.2.2.2.1.getD (q + 3) 0 ≤ 8 ∧ t.2.2.2.1.getD (q + 4) 0 = p ∧ q + 5 + t.2.2.2.1.getD (q + 2) 0 ≤ e ∧ p + pn_len (t.2.2.2.1.getD (q + 2) 0) (t.2.2.2.1.getD (q + 3) 0) ≤ t.2.1.length) → R = none := fun hb => by
            rw [← hc]
            cases m with
            | zero => rw [pn_ht, if_neg (by omega)]; rfl
            | succ m => rw [pn_ht, if_neg (by omega), if_neg hb]; rfl
          by_cases ck : 1 ≤ t.2.2.2.1.getD (q + 2) 0 ∧ t.2.2.2.1.getD (q + 2) 0 ≤ 4
          · rw [if_pos (ek.mpr ck), if_neg (show ¬ (1 : Int32) = 0 by decide)]
            by_cases cv : t.2.2.2.1.getD (q + 3) 0 ≤ 8
            · rw [if_neg (show ¬ (8 : Int32) < nI (t.2.2.2.1.getD (q + 3) 0) from nI_nlt (a := 8) cv (by decide)), Option.bind_some, nI_add, Nat.add_assoc, ma_218 (by omega), Option.bind_some, b4']
              by_cases cp : t.2.2.2.1.getD (q + 4) 0 = p
              · rw [if_pos (by rw [cp]), nI_add]
                have hlen := pn_len_le ck.2 (Or.inl cv)
                have hge := pn_len_ge (t.2.2.2.1.getD (q + 2) 0) (t.2.2.2.1.getD (q + 3) 0)
                by_cases ce : q + 5 + t.2.2.2.1.getD (q + 2) 0 ≤ e
                · rw [if_neg (nI_nlt (by omega) (by omega)), pm_lengthOf (by omega), Option.bind_some, mg_3 hP, Option.bind_some, ma_213 hi, Option.bind_some, w1.1, nI_add]
                  dsimp only
                  by_cases cl : p + pn_len (t.2.2.2.1.getD (q + 2) 0) (t.2.2.2.1.getD (q + 3) 0) ≤ t.2.1.length
                  · cases m with
                    | zero => omega
                    | succ m =>
                      obtain ⟨I2, x1, x2, x3⟩ := M_note (s := s) (L := L) hP w1 hi (by dsimp only; omega) p (t.2.2.2.1.getD (q + 2) 0) (pn_num (fun i => t.2.2.2.1.getD i 0) (q + 5) (t.2.2.2.1.getD (q + 2) 0)) (t.2.2.2.1.getD (q + 3) 0)
                      dsimp only at x2 x3
                      left
                      refine ⟨m, (nI (p + pn_len (t.2.2.2.1.getD (q + 2) 0) (t.2.2.2.1.getD (q + 3) 0)), nI (120 * i + (q + 5 + t.2.2.2.1.getD (q + 2) 0)), (s, pw_lay (pw_σ b) (I2, L, ρ))), Nat.lt_succ_self m, ?_, _, _, j + 1, I2, _, rfl, x2, ?_, g1.trans (x3.mono (fun a c hc => by unfold mC; omega)), by omega, by omega, by omega, by omega, ?_⟩
                      · rw [if_pos (nI_le cl (by omega)), mM_ob, Option.bind_some, x1, Option.bind_some, pm_lengthOf (by omega), Option.bind_some, nI_add]
                        simp only [Nat.add_assoc]
                      · rw [List.length_append, List.length_singleton, hj]
                      · rw [pn_ht, if_neg (by omega), if_pos ⟨ck.1, ck.2, cv, cp, ce, cl⟩, Option.map_map] at hc
                        rw [← hc]
                        congr 1
                        funext l
                        simp
                  · right
                    refine ⟨_, if_neg (fun hx => cl ((nI_leI (by omega) (by omega)).mp hx)), I1, rs, rfl, w1, by omega, g1, bad (fun hx => cl hx.2.2.2.2.2)⟩
                · right
                  refine ⟨_, if_pos (nI_lt (by omega) (by omega)), I1, rs, rfl, w1, by omega, g1, bad (fun hx => ce hx.2.2.2.2.1)⟩
              · right
                refine ⟨_, if_neg (fun hx => cp ((nI_eq (by omega) (by omega)).mp hx)), I1, rs, rfl, w1, by omega, g1, bad (fun hx => cp hx.2.2.2.1)⟩
            · right
              refine ⟨_, if_pos (show (8 : Int32) < nI (t.2.2.2.1.getD (q + 3) 0) from nI_lt (a := 8) (by omega) (by omega)), I1, rs, rfl, w1, by omega, g1, bad (fun hx => cv hx.2.2.1)⟩
          · right
            rw [if_neg (fun hx => ck (ek.mp hx))]
            refine ⟨_, if_pos rfl, I1, rs, rfl, w1, by omega, g1, bad (fun hx => ck ⟨hx.1, hx.2.1⟩)⟩
      · intro r hr
        cases r with
        | inl a =>
          obtain ⟨p, q, I1, rs, rfl, w1, hl, g1, hp, hqe, e9⟩ := hr
          dsimp only
          by_cases cq : q = e
          · rw [if_pos (by rw [cq, Nat.add_zero]), mg_3 hP, Option.bind_some, ma_213 hi, Option.bind_some, w1.1]
            dsimp only
            by_cases cp : p = t.2.1.length
            · rw [if_pos (by rw [cp]), Option.bind_some, aw_zz_1]
              rw [if_pos ⟨cq, cp⟩] at e9
              exact ⟨1, I1, rs, rfl, w1, hl, g1, Or.inl ⟨rfl, e9⟩⟩
            · rw [if_neg (fun hc => cp ((nI_eq (by omega) (by omega)).mp hc)), Option.bind_some, aw_zz_0]
              rw [if_neg (fun hc => cp hc.2)] at e9
              exact ⟨0, I1, rs, rfl, w1, hl, g1, Or.inr ⟨rfl, e9⟩⟩
          · rw [if_neg (fun hc => cq (by have := (nI_eq (by omega) (by omega)).mp hc; omega)), Option.bind_some, aw_zz_0]
            rw [if_neg (fun hc => cq hc.1)] at e9
            exact ⟨0, I1, rs, rfl, w1, hl, g1, Or.inr ⟨rfl, e9⟩⟩
        | inr a =>
          obtain ⟨I1, rs, rfl, w1, hl, g1, e9⟩ := hr
          exact ⟨0, I1, rs, rfl, w1, hl, g1, Or.inr ⟨rfl, e9⟩⟩
    · rw [if_neg cs] at hR
      rw [if_neg (fun hc => cs ((lN_eq63 (by omega) (by omega)).mp ((lg_cmp_eq _ _).mp hc)))]
      exact ⟨0, _, [], rfl, w0, Nat.zero_le _, g0, Or.inr ⟨rfl, hR.symm⟩⟩
end
