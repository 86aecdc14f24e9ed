/-! ===== the reference begins anew from records ===== -/
section
variable {I I' : mN} {L L' : mL} {ρ : mQ} {s : Option Nat} {b n i : Nat} {E : qE} {t : qf} {D : List (Nat × Nat × Nat)} {nm : Nat → Nat}
theorem M_isRecord (hP : mP b ρ) (h : mW I b i t) (hz : mZ t) (hB : qB t.2.1) (hi : i < 12) {p : Nat} (hp : p ≤ 200) : f_M_isRecord (s, pw_lay (pw_σ b) (I, L, ρ)) (some (b + 211)) (nI i) (nI p) = some (if pn_snd t.2.1 p = 0 then 0 else 1) := by
  have hl := hz.1
  have hk := hB.getD (p + 6)
  have hv := hB.getD (p + 7)
  unfold f_M_isRecord
  rw [mg_3 hP, Option.bind_some, ma_213 hi, Option.bind_some, h.1, show nI p + (8 : Int32) = nI (p + 8) from nI_add p 8]
  by_cases c1 : p + 8 ≤ t.2.1.length
  · have b6 := h.2.2.1 (p + 6) (by omega)
    have b7 := h.2.2.1 (p + 7) (by omega)
    rw [if_pos (nI_le c1 (by omega)), mg_5 hP, Option.bind_some, nI_100, show nI (100 * i + p) + (6 : Int32) = nI (100 * i + (p + 6)) from nI_add _ 6, ma_215 (by omega), Option.bind_some, b6, Option.bind_some, show nI (100 * i + p) + (7 : Int32) = nI (100 * i + (p + 7)) from nI_add _ 7, ma_215 (by omega), Option.bind_some, b7, M_in, Option.bind_some]
    have e255 : (nI (t.2.1.getD (p + 7) 0) = (255 : Int32)) ↔ t.2.1.getD (p + 7) 0 = 255 := nI_eq (b := 255) (by omega) (by decide)
    have e8 : (nI (t.2.1.getD (p + 7) 0) ≤ (8 : Int32)) ↔ t.2.1.getD (p + 7) 0 ≤ 8 := nI_leI (b := 8) (by omega) (by decide)
    have ek : (¬ nI (t.2.1.getD (p + 6) 0) < (1 : Int32) ∧ nI (t.2.1.getD (p + 6) 0) ≤ (4 : Int32)) ↔ 1 ≤ t.2.1.getD (p + 6) 0 ∧ t.2.1.getD (p + 6) 0 ≤ 4 := by
      rw [show (nI (t.2.1.getD (p + 6) 0) < (1 : Int32)) ↔ t.2.1.getD (p + 6) 0 < 1 from nI_ltI (b := 1) (by omega) (by decide), show (nI (t.2.1.getD (p + 6) 0) ≤ (4 : Int32)) ↔ t.2.1.getD (p + 6) 0 ≤ 4 from nI_leI (b := 4) (by omega) (by decide)]
      omega
    by_cases ck : 1 ≤ t.2.1.getD (p + 6) 0 ∧ t.2.1.getD (p + 6) 0 ≤ 4
    · rw [if_pos (ek.mpr ck), if_neg (by decide)]
      have tail : ∀ (hvv : t.2.1.getD (p + 7) 0 ≤ 8 ∨ t.2.1.getD (p + 7) 0 = 255), ((f_M_lengthOf (s, pw_lay (pw_σ b) (I, L, ρ)) (nI (t.2.1.getD (p + 6) 0)) (nI (t.2.1.getD (p + 7) 0))).bind fun v8 =>
        (some (some (b + 213))).bind fun v9 =>
        (aw_aI (s, pw_lay (pw_σ b) (I, L, ρ)) v9 1 (nI i)).bind fun v10 =>
        (if v10 < (nI p + v8) then
            some (0 : Int32)
          else
            (some (some (b + 215))).bind fun v11 =>
            (f_M_numberIn (s, pw_lay (pw_σ b) (I, L, ρ)) v11 (nI (100 * i + p)) (4 : Int32)).bind fun v12 =>
            (some (some (b + 215))).bind fun v13 =>
            (f_M_sumOf (s, pw_lay (pw_σ b) (I, L, ρ)) v13 (nI (100 * i + p) + (4 : Int32)) (nI (100 * i + p) + v8)).bind fun v14 =>
            if (lg_cmp v12 v14) = 0 then
              some (1 : Int32)
            else
              some (0 : Int32) : Option (Int32)).bind fun j15 =>
        (aw_zz j15).bind fun v16 =>
        some j15) = some (if pn_snd t.2.1 p = 0 then 0 else 1) := by
        intro hvv
        have l1 := pn_len_ge (t.2.1.getD (p + 6) 0) (t.2.1.getD (p + 7) 0)
        have l2 := pn_len_le ck.2 hvv
        rw [pm_lengthOf (by omega), Option.bind_some, Option.bind_some, ma_213 hi, Option.bind_some, h.1, nI_add]
        unfold pn_snd
        by_cases c2 : p + pn_len (t.2.1.getD (p + 6) 0) (t.2.1.getD (p + 7) 0) ≤ t.2.1.length
        · have e1 := M_rnum (s := s) (L := L) (ρ := ρ) h hi hB hl (p := p) (k := 4) (by omega)
          have e2 := M_rsum (s := s) (L := L) (ρ := ρ) h hi hB hl (p := p + 4) (k := pn_len (t.2.1.getD (p + 6) 0) (t.2.1.getD (p + 7) 0) - 4) (by omega)
          have b1 := pn_num_lt hB.getD p 4
          have b2 := pn_sum_lt hB.getD (p + 4) (pn_len (t.2.1.getD (p + 6) 0) (t.2.1.getD (p + 7) 0) - 4)
          rw [if_neg (nI_nlt c2 (by omega)), Option.bind_some, show (4 : Int32) = nI 4 from rfl, e1, Option.bind_some, Option.bind_some, nI_add, nI_add, show 100 * i + p + 4 = 100 * i + (p + 4) by omega, show 100 * i + p + pn_len (t.2.1.getD (p + 6) 0) (t.2.1.getD (p + 7) 0) = 100 * i + (p + 4) + (pn_len (t.2.1.getD (p + 6) 0) (t.2.1.getD (p + 7) 0) - 4) by omega, e2, Option.bind_some]
          by_cases c3 : pn_num (fun c => t.2.1.getD c 0) p 4 = pn_sum (fun c => t.2.1.getD c 0) (p + 4) (pn_len (t.2.1.getD (p + 6) 0) (t.2.1.getD (p + 7) 0) - 4)
          · rw [if_pos ((lg_cmp_eq _ _).mpr ((lN_eq63 (by omega) (by omega)).mpr c3)), Option.bind_some, aw_zz_1, if_pos (show (p + 8 ≤ t.2.1.length ∧ 1 ≤ t.2.1.getD (p + 6) 0 ∧ t.2.1.getD (p + 6) 0 ≤ 4 ∧ (t.2.1.getD (p + 7) 0 ≤ 8 ∨ t.2.1.getD (p + 7) 0 = 255) ∧ p + pn_len (t.2.1.getD (p + 6) 0) (t.2.1.getD (p + 7) 0) ≤ t.2.1.length ∧ pn_num (fun c => t.2.1.getD c 0) p 4 = pn_sum (fun c => t.2.1.getD c 0) (p + 4) (pn_len (t.2.1.getD (p + 6) 0) (t.2.1.getD (p + 7) 0) - 4)) from ⟨c1, ck.1, ck.2, hvv, c2, c3⟩), if_neg (show ¬ pn_len (t.2.1.getD (p + 6) 0) (t.2.1.getD (p + 7) 0) = 0 by omega)]
            rfl
          · rw [if_neg (fun hc => c3 ((lN_eq63 (by omega) (by omega)).mp ((lg_cmp_eq _ _).mp hc))), Option.bind_some, aw_zz_0]
            have e9 : ¬ (p + 8 ≤ t.2.1.length ∧ 1 ≤ t.2.1.getD (p + 6) 0 ∧ t.2.1.getD (p + 6) 0 ≤ 4 ∧ (t.2.1.getD (p + 7) 0 ≤ 8 ∨ t.2.1.getD (p + 7) 0 = 255) ∧ p + pn_len (t.2.1.getD (p + 6) 0) (t.2.1.getD (p + 7) 0) ≤ t.2.1.length ∧ pn_num (fun c => t.2.1.getD c 0) p 4 = pn_sum (fun c => t.2.1.getD c 0) (p + 4) (pn_len (t.2.1.getD (p + 6) 0) (t.2.1.getD (p + 7) 0) - 4)) := fun hc => c3 hc.2.2.2.2.2
            rw [if_neg e9, if_pos rfl]
            rfl
        · rw [if_pos (nI_lt (by omega) (by omega)), Option.bind_some, aw_zz_0]
          have e9 : ¬ (p + 8 ≤ t.2.1.length ∧ 1 ≤ t.2.1.getD (p + 6) 0 ∧ t.2.1.getD (p + 6) 0 ≤ 4 ∧ (t.2.1.getD (p + 7) 0 ≤ 8 ∨ t.2.1.getD (p + 7) 0 = 255) ∧ p + pn_len (t.2.1.getD (p + 6) 0) (t.2.1.getD (p + 7) 0) ≤ t.2.1.length ∧ pn_num (fun c => t.2.1.getD c 0) p 4 = pn_sum (fun c => t.2.1.getD c 0) (p + 4) (pn_len (t.2.1.getD (p + 6) 0) (t.2.1.getD (p + 7) 0) - 4)) := fun hc => c2 hc.2.2.2.2.1
          rw [if_neg e9, if_pos rfl]
          rfl
      by_cases c8 : t.2.1.getD (p + 7) 0 ≤ 8
      · rw [if_pos (e8.mpr c8)]
        exact tail (Or.inl c8)
      · rw [if_neg (fun hc => c8 (e8.mp hc))]
        by_cases c5 : t.2.1.getD (p + 7) 0 = 255
        · rw [if_pos (e255.mpr c5)]
          exact tail (Or.inr c5)
        · rw [if_neg (fun hc => c5 (e255.mp hc))]
          unfold pn_snd
          have e9 : ¬ (p + 8 ≤ t.2.1.length ∧ 1 ≤ t.2.1.getD (p + 6) 0 ∧ t.2.1.getD (p + 6) 0 ≤ 4 ∧ (t.2.1.getD (p + 7) 0 ≤ 8 ∨ t.2.1.getD (p + 7) 0 = 255) ∧ p + pn_len (t.2.1.getD (p + 6) 0) (t.2.1.getD (p + 7) 0) ≤ t.2.1.length ∧ pn_num (fun c => t.2.1.getD c 0) p 4 = pn_sum (fun c => t.2.1.getD c 0) (p + 4) (pn_len (t.2.1.getD (p + 6) 0) (t.2.1.getD (p + 7) 0) - 4)) := fun hc => hc.2.2.2.1.elim c8 c5
          rw [if_neg e9, if_pos rfl]
    · rw [if_neg (fun hc => ck (ek.mp hc)), if_pos rfl]
      unfold pn_snd
      have e9 : ¬ (p + 8 ≤ t.2.1.length ∧ 1 ≤ t.2.1.getD (p + 6) 0 ∧ t.2.1.getD (p + 6) 0 ≤ 4 ∧ (t.2.1.getD (p + 7) 0 ≤ 8 ∨ t.2.1.getD (p + 7) 0 = 255) ∧ p + pn_len (t.2.1.getD (p + 6) 0) (t.2.1.getD (p + 7) 0) ≤ t.2.1.length ∧ pn_num (fun c => t.2.1.getD c 0) p 4 = pn_sum (fun c => t.2.1.getD c 0) (p + 4) (pn_len (t.2.1.getD (p + 6) 0) (t.2.1.getD (p + 7) 0) - 4)) := fun hc => ck ⟨hc.2.1, hc.2.2.1⟩
      rw [if_neg e9, if_pos rfl]
  · rw [if_neg (fun hc => c1 ((nI_leI (by omega) (by omega)).mp hc))]
    unfold pn_snd
    rw [if_neg (show ¬ (p + 8 ≤ t.2.1.length ∧ 1 ≤ t.2.1.getD (p + 6) 0 ∧ t.2.1.getD (p + 6) 0 ≤ 4 ∧ (t.2.1.getD (p + 7) 0 ≤ 8 ∨ t.2.1.getD (p + 7) 0 = 255) ∧ p + pn_len (t.2.1.getD (p + 6) 0) (t.2.1.getD (p + 7) 0) ≤ t.2.1.length ∧ pn_num (fun c => t.2.1.getD c 0) p 4 = pn_sum (fun c => t.2.1.getD c 0) (p + 4) (pn_len (t.2.1.getD (p + 6) 0) (t.2.1.getD (p + 7) 0) - 4)) from fun hc => c1 hc.1), if_pos rfl]
theorem mW.count0 (h : mW I b i t) : mW (uI I (b + 219) i 0) b i (t.1, t.2.1, t.2.2.1, t.2.2.2.1, []) := by
  obtain ⟨h1, h2, h3, h4, h5, h6, h7, h8⟩ := h
  refine ⟨?_, ?_, fun k hk => ?_, ?_, fun hn => ?_, fun k hk => ?_, uI_at, fun k r hr => (by cases hr)⟩
  · rw [uI_ne (by omega)]; exact h1
  · rw [uI_ne (by omega)]; exact h2
  · rw [uI_ne (by omega)]; exact h3 k hk
  · rw [uI_ne (by omega)]; exact h4
  · rw [uI_ne (by omega)]; exact h5 hn
  · rw [uI_ne (by omega)]; exact h6 k hk
theorem mW.take (h : mW I b i t) {e : Nat} (he : e ≤ t.2.1.length) : mW (uI I (b + 213) i (nI e)) b i (t.1, t.2.1.take e, t.2.2) := by
  obtain ⟨h1, h2, h3, h4, h5, h6, h7, h8⟩ := h
  have hl : (t.2.1.take e).length = e := by rw [List.length_take]; omega
  refine ⟨?_, ?_, fun k hk => ?_, ?_, fun hn => ?_, fun k hk => ?_, ?_, fun k r hr => ?_⟩
  · rw [uI_at]
    show nI e = nI (t.2.1.take e).length
    rw [hl]
  · rw [uI_ne (by omega)]; exact h2
  · have hk' : k < (t.2.1.take e).length := hk
    rw [hl] at hk'
    rw [uI_ne (by omega), h3 k (by omega)]
    congr 1
    show _ = (t.2.1.take e).getD k 0
    unfold List.getD
    rw [List.getElem?_take_of_lt hk']
  · rw [uI_ne (by omega)]; exact h4
  · rw [uI_ne (by omega)]; exact h5 hn
  · rw [uI_ne (by omega)]; exact h6 k hk
  · rw [uI_ne (by omega)]; exact h7
  · rw [uI_ne (by omega), uI_ne (by omega), uI_ne (by omega)]; exact h8 k r hr
end
