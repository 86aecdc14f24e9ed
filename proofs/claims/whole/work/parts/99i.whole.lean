/-! ===== the reference makes a hint, copies a row ===== -/
/-- the hint's bytes so far -/
def hA (I : mN) (b i : Nat) (X : List Nat) : Prop := ∀ j, j < X.length → I (b + 218) (120 * i + j) = nI (X.getD j 0)
theorem hA.add {I : mN} {b i : Nat} {X : List Nat} (h : hA I b i X) (x : Nat) : hA (uI I (b + 218) (120 * i + X.length) (nI x)) b i (X ++ [x]) := fun j hj => by
  rw [List.length_append, List.length_singleton] at hj
  by_cases c : j = X.length
  · rw [c, uI_at]
    congr 1
    have := pn_getD_app X [x] 0
    rw [Nat.add_zero] at this
    rw [this]
    rfl
  · rw [uI_ne (by omega), h j (by omega)]
    congr 1
    unfold List.getD
    rw [List.getElem?_append_left (by omega)]
/-- the first bytes of an entry -/
def ep (B : List Nat) (p jj : Nat) : List Nat := if jj ≤ 8 then (B.drop (p + 4)).take (jj - 4) else (B.drop (p + 4)).take 4 ++ ([p] ++ (B.drop (p + 8)).take (jj - 8))
theorem pn_dt {B : List Nat} {p k : Nat} (h : p + k < B.length) : (B.drop p).take (k + 1) = (B.drop p).take k ++ [B.getD (p + k) 0] := by
  rw [List.take_add_one, List.getElem?_drop]
  congr 1
  unfold List.getD
  rw [List.getElem?_eq_getElem h]
  rfl
theorem ep_lo {B : List Nat} {p jj : Nat} (h4 : 4 ≤ jj) (h8 : jj < 8) (hl : p + jj < B.length) : ep B p (jj + 1) = ep B p jj ++ [B.getD (p + jj) 0] := by
  unfold ep
  have e := pn_dt (B := B) (p := p + 4) (k := jj - 4) (by omega)
  rw [show p + 4 + (jj - 4) = p + jj by omega] at e
  rw [if_pos (by omega), if_pos (by omega), show jj + 1 - 4 = (jj - 4) + 1 by omega, e]
theorem ep_hi {B : List Nat} {p jj : Nat} (h8 : 8 < jj) (hl : p + jj < B.length) : ep B p (jj + 1) = ep B p jj ++ [B.getD (p + jj) 0] := by
  unfold ep
  have e := pn_dt (B := B) (p := p + 8) (k := jj - 8) (by omega)
  rw [show p + 8 + (jj - 8) = p + jj by omega] at e
  rw [if_neg (by omega), if_neg (by omega), show jj + 1 - 8 = (jj - 8) + 1 by omega, e, List.append_assoc, List.append_assoc]
theorem ep_8 {B : List Nat} {p : Nat} (hl : p + 8 < B.length) : ep B p 9 = ep B p 8 ++ [p] ++ [B.getD (p + 8) 0] := by
  unfold ep
  have e := pn_dt (B := B) (p := p + 8) (k := 0) (by omega)
  rw [if_neg (by omega), if_pos (by omega), show (9 - 8 : Nat) = 0 + 1 from rfl, e, List.append_assoc]
  rfl
theorem ep_end {B : List Nat} {p : Nat} {r : qr} (hp : r.1 = p) (hk : 1 ≤ r.2.1) : ep B p (8 + r.2.1) = pn_ent B r := by
  unfold ep pn_ent
  rw [if_neg (by omega), hp, Nat.add_sub_cancel_left]
theorem ep_len {B : List Nat} {p jj : Nat} (h4 : 4 ≤ jj) (hl : p + jj ≤ B.length) : (ep B p jj).length = if jj ≤ 8 then jj - 4 else jj - 3 := by
  unfold ep
  split
  · rw [List.length_take, List.length_drop]
    omega
  · rw [List.length_append, List.length_append, List.length_take, List.length_take, List.length_drop, List.length_drop, List.length_singleton]
    omega
section
variable {I I' : mN} {L L' : mL} {ρ : mQ} {s : Option Nat} {b i : Nat} {t : qf}
theorem mW.hint0 (h : mW I b i t) (hH : t.2.2.2.1 = []) {I' : mN} (g : mfr I I' (fun a _ => a = b + 218)) : mW I' b i t := by
  obtain ⟨h1, h2, h3, h4, h5, h6, h7, h8⟩ := h
  have e : ∀ a k, a ≠ b + 218 → I' a k = I a k := fun a k ha => g _ _ ha
  refine ⟨?_, ?_, fun k hk => ?_, ?_, fun hn => absurd hH hn, fun k hk => ?_, ?_, fun k r hr => ?_⟩
  · rw [e _ _ (by omega)]; exact h1
  · rw [e _ _ (by omega)]; exact h2
  · rw [e _ _ (by omega)]; exact h3 k hk
  · rw [e _ _ (by omega)]; exact h4
  · rw [hH] at hk; exact absurd hk (Nat.not_lt_zero _)
  · rw [e _ _ (by omega)]; exact h7
  · rw [e _ _ (by omega), e _ _ (by omega), e _ _ (by omega)]; exact h8 k r hr
theorem M_makeHint (hP : mP b ρ) (h : mW I b i t) (hz : mZ t) (hi : i < 12) (hB : qB t.2.1) (hH : t.2.2.2.1 = []) (hr : ∀ r ∈ t.2.2.2.2, r.1 + 8 + r.2.1 ≤ t.2.1.length ∧ 1 ≤ r.2.1 ∧ r.2.1 ≤ 4) (hs : (pn_ents t.2.1 t.2.2.2.2).length ≤ 100) :
    ∃ I', f_M_makeHint (s, pw_lay (pw_σ b) (I, L, ρ)) (some (b + 211)) (nI i) = some (s, pw_lay (pw_σ b) (I', L, ρ)) ∧ mW I' b i (t.1, t.2.1, t.2.2.1, pn_mkh t.2.1 t.2.2.2.2, t.2.2.2.2) ∧ mfr I I' (fun a k => mC b i a k ∧ a ≠ b + 212) := by
  have hlB := hz.1
  have h11 := hz.2.2
  have Qh : ∀ {J : mN} {j : Nat} {x : Int32}, j < 120 → mfr J (uI J (b + 218) (120 * i + j) x) (fun a k => mC b i a k ∧ a = b + 218) := fun hj => mfr.uI ⟨Or.inr (Or.inr (Or.inl ⟨rfl, by omega, by omega⟩)), rfl⟩
  have mono0 : ∀ {J K : mN}, mfr J K (fun a k => mC b i a k ∧ a = b + 218) → mfr J K (fun a _ => a = b + 218) := fun g => g.mono (fun a k hk => hk.2)
  unfold f_M_makeHint
  rw [nI_120]
  refine pw_loopG (G := fun x => ∃ I', x = some (s, pw_lay (pw_σ b) (I', L, ρ)) ∧ mW I' b i (t.1, t.2.1, t.2.2.1, pn_mkh t.2.1 t.2.2.2.2, t.2.2.2.2) ∧ mfr I I' (fun a k => mC b i a k ∧ a ≠ b + 212)) t.2.2.2.2.length
    (fun m a => ∃ j J, a = (nI (120 * i + (pn_ents t.2.1 (t.2.2.2.2.take j)).length), nI j, (s, pw_lay (pw_σ b) (J, L, ρ))) ∧ j + m = t.2.2.2.2.length ∧ hA J b i (pn_ents t.2.1 (t.2.2.2.2.take j)) ∧ mfr I J (fun a k => mC b i a k ∧ a = b + 218))
    (fun a => ∃ y J, a = (nI (120 * i + (pn_ents t.2.1 t.2.2.2.2).length), y, (s, pw_lay (pw_σ b) (J, L, ρ))) ∧ hA J b i (pn_ents t.2.1 t.2.2.2.2) ∧ mfr I J (fun a k => mC b i a k ∧ a = b + 218)) ?_ ?_ ?_
  · exact ⟨0, I, rfl, Nat.zero_add _, fun j hj => absurd hj (Nat.not_lt_zero _), mfr.rfl⟩
  · rintro m a ⟨j, J, rfl, hjm, hX, g⟩
    have wJ := h.hint0 hH (mono0 g)
    dsimp only
    rw [mg_9 hP, Option.bind_some, ma_219 hi, Option.bind_some, wJ.2.2.2.2.2.2.1]
    by_cases c : j < t.2.2.2.2.length
    · obtain ⟨r, hrj⟩ : ∃ r, t.2.2.2.2[j]? = some r := ⟨_, List.getElem?_eq_getElem c⟩
      obtain ⟨c1, c2, c3⟩ := hr r (List.mem_of_getElem? hrj)
      obtain ⟨g1, g2, g3⟩ := wJ.2.2.2.2.2.2.2 j r hrj
      have htk := pn_ents_take hs (j + 1)
      have entJ : pn_ents t.2.1 (t.2.2.2.2.take (j + 1)) = pn_ents t.2.1 (t.2.2.2.2.take j) ++ pn_ent t.2.1 r := by
        rw [List.take_add_one, hrj, Option.toList_some, pn_ents_app, pn_ents, pn_ents, List.append_nil]
      have hel := pn_ent_len c1
      rw [entJ, List.length_append, hel] at htk
      generalize hX0 : pn_ents t.2.1 (t.2.2.2.2.take j) = X0 at hX htk entJ
      -- the bytes of one entry
      have inner : ∀ m jj (K : mN), jj + m = 8 + r.2.1 → 4 ≤ jj → hA K b i (X0 ++ ep t.2.1 r.1 jj) → mfr I K (fun a k => mC b i a k ∧ a = b + 218) → ∃ K', aw_wh (σ := Int32 × Int32 × aw_W) (τ := Int32 × Int32 × aw_W) (fun s6 =>
        (aw_gR s6.2.2 (some (b + 211)) 7 11).bind fun v7 =>
        (aw_aI s6.2.2 v7 1 (((12 : Int32) * nI i) + nI j)).bind fun v8 =>
        if ((8 : Int32) + v8) ≤ s6.2.1 then
          some (.inr (s6.1, s6.2.1, s6.2.2))
        else
          (if s6.2.1 = (8 : Int32) then
              (aw_gR s6.2.2 (some (b + 211)) 7 8).bind fun v9 =>
              (aw_sI s6.2.2 v9 1 s6.1 (nI r.1)).bind fun v10 =>
              some (s6.1 + 1, v10)
            else
              some (s6.1, s6.2.2) : Option (Int32 × aw_W)).bind fun j11 =>
          (aw_gR j11.2 (some (b + 211)) 7 8).bind fun v12 =>
          (aw_gR j11.2 (some (b + 211)) 7 5).bind fun v13 =>
          (aw_aI j11.2 v13 1 ((((100 : Int32) * nI i) + nI r.1) + s6.2.1)).bind fun v14 =>
          (aw_sI j11.2 v12 1 j11.1 v14).bind fun v15 =>
          some (.inl (j11.1 + 1, s6.2.1 + 1, v15))) (nI (120 * i + (X0 ++ ep t.2.1 r.1 jj).length), nI jj, (s, pw_lay (pw_σ b) (K, L, ρ))) = some (nI (120 * i + (X0 ++ pn_ent t.2.1 r).length), nI (8 + r.2.1), (s, pw_lay (pw_σ b) (K', L, ρ))) ∧ hA K' b i (X0 ++ pn_ent t.2.1 r) ∧ mfr I K' (fun a k => mC b i a k ∧ a = b + 218) := by
        intro m
        induction m with
        | zero =>
          intro jj K hjj h4 hK gK
          have e0 : jj = 8 + r.2.1 := by omega
          subst e0
          rw [ep_end rfl c2] at hK ⊢
          have wK := h.hint0 hH (mono0 gK)
          obtain ⟨k1, k2, k3⟩ := wK.2.2.2.2.2.2.2 j r hrj
          refine ⟨K, aw_wh_out ?_, hK, gK⟩
          dsimp only
          rw [mg_11 hP, Option.bind_some, nI_12, ma_221 (by omega), Option.bind_some, k2, show (8 : Int32) + nI r.2.1 = nI (8 + r.2.1) from nI_add 8 _, if_pos (nI_le (Nat.le_refl _) (by omega))]
        | succ m ih =>
          intro jj K hjj h4 hK gK
          have wK := h.hint0 hH (mono0 gK)
          obtain ⟨k1, k2, k3⟩ := wK.2.2.2.2.2.2.2 j r hrj
          have hepl := ep_len (B := t.2.1) (p := r.1) h4 (by omega)
          have hl9 : (X0 ++ ep t.2.1 r.1 jj).length ≤ 118 := by
            rw [List.length_append, hepl]
            split <;> omega
          have body : ∀ K1 : mN, mfr I K1 (fun a k => mC b i a k ∧ a = b + 218) → K1 (b + 215) (100 * i + (r.1 + jj)) = nI (t.2.1.getD (r.1 + jj) 0) := fun K1 g1 => by
            rw [g1 _ _ (fun hc => by omega)]
            exact h.2.2.1 (r.1 + jj) (by omega)
          have hne : ¬ nI (8 + r.2.1) ≤ nI jj := nI_ge (by omega) (by omega)
          by_cases c8 : jj = 8
          · have hK2 := (hK.add r.1).add (t.2.1.getD (r.1 + 8) 0)
            have e9 : X0 ++ ep t.2.1 r.1 8 ++ [r.1] ++ [t.2.1.getD (r.1 + 8) 0] = X0 ++ ep t.2.1 r.1 9 := by
              rw [ep_8 (by omega), List.append_assoc, List.append_assoc, List.append_assoc]
            rw [c8] at hK2 hl9
            have gK2 := (gK.trans (Qh (x := nI r.1) (show (X0 ++ ep t.2.1 r.1 8).length < 120 by omega))).trans (Qh (x := nI (t.2.1.getD (r.1 + 8) 0)) (show (X0 ++ ep t.2.1 r.1 8 ++ [r.1]).length < 120 by rw [List.length_append, List.length_singleton]; omega))
            rw [e9] at hK2
            obtain ⟨K', x1, x2, x3⟩ := ih 9 _ (by omega) (by omega) hK2 gK2
            refine ⟨K', (aw_wh_in ?_).trans x1, x2, x3⟩
            dsimp only
            rw [mg_11 hP, Option.bind_some, nI_12, ma_221 (by omega), Option.bind_some, k2, show (8 : Int32) + nI r.2.1 = nI (8 + r.2.1) from nI_add 8 _, if_neg hne, c8, if_pos (show nI 8 = (8 : Int32) from rfl), mg_8 hP, Option.bind_some, ms_218 (by omega), Option.bind_some, Option.bind_some]
            dsimp only
            have hb := body _ (gK.trans (Qh (x := nI r.1) (show (X0 ++ ep t.2.1 r.1 8).length < 120 by omega)))
            rw [c8] at hb
            rw [mg_8 hP, Option.bind_some, mg_5 hP, Option.bind_some, nI_100, nI_add, Nat.add_assoc, ma_215 (by omega), Option.bind_some, hb, nI_1, Nat.add_assoc, ms_218 (by omega), Option.bind_some, nI_1, nI_1, ← e9]
            simp only [List.length_append, List.length_singleton, Nat.add_assoc]
          · have e9 : X0 ++ ep t.2.1 r.1 jj ++ [t.2.1.getD (r.1 + jj) 0] = X0 ++ ep t.2.1 r.1 (jj + 1) := by
              by_cases c9 : jj < 8
              · rw [ep_lo h4 c9 (by omega), List.append_assoc]
              · rw [ep_hi (by omega) (by omega), List.append_assoc]
            have hK2 := hK.add (t.2.1.getD (r.1 + jj) 0)
            rw [e9] at hK2
            have gK2 := gK.trans (Qh (x := nI (t.2.1.getD (r.1 + jj) 0)) (show (X0 ++ ep t.2.1 r.1 jj).length < 120 by omega))
            obtain ⟨K', x1, x2, x3⟩ := ih (jj + 1) _ (by omega) (by omega) hK2 gK2
            refine ⟨K', (aw_wh_in ?_).trans x1, x2, x3⟩
            dsimp only
            rw [mg_11 hP, Option.bind_some, nI_12, ma_221 (by omega), Option.bind_some, k2, show (8 : Int32) + nI r.2.1 = nI (8 + r.2.1) from nI_add 8 _, if_neg hne, if_neg (show ¬ nI jj = (8 : Int32) from fun hc => c8 ((nI_eq (b := 8) (by omega) (by decide)).mp hc)), Option.bind_some]
            dsimp only
            rw [mg_8 hP, Option.bind_some, mg_5 hP, Option.bind_some, nI_100, nI_add, Nat.add_assoc, ma_215 (by omega), Option.bind_some, body K gK, ms_218 (by omega), Option.bind_some, nI_1, nI_1, ← e9]
            simp only [List.length_append, List.length_singleton, Nat.add_assoc]
      have hep4 : ep t.2.1 r.1 4 = [] := by unfold ep; rw [if_pos (by decide)]; exact List.take_zero
      obtain ⟨K', x1, x2, x3⟩ := inner (4 + r.2.1) 4 J (by omega) (Nat.le_refl _) (by rw [hep4, List.append_nil]; exact hX) g
      rw [hep4, List.append_nil] at x1
      left
      refine ⟨m - 1, (nI (120 * i + (X0 ++ pn_ent t.2.1 r).length), nI (j + 1), (s, pw_lay (pw_σ b) (K', L, ρ))), by omega, ?_, j + 1, K', by rw [entJ], by omega, by rw [entJ]; exact x2, x3⟩
      rw [if_neg (nI_ge c (by omega)), mg_10 hP, Option.bind_some, nI_12, ma_220 (by omega), Option.bind_some, g1, ← nI_12, show (4 : Int32) = nI 4 from rfl, x1, Option.bind_some, nI_1]
    · right
      have hj : j = t.2.2.2.2.length := by omega
      rw [hj, List.take_length] at hX
      exact ⟨_, if_pos (nI_le (by omega) (by omega)), _, J, by rw [hj, List.take_length], hX, g⟩
  · rintro a ⟨y, J, rfl, hX, g⟩
    have wJ := h.hint0 hH (mono0 g)
    have hqE : qB (pn_ents t.2.1 t.2.2.2.2) := pn_ents_qB hB _ (fun r h => by have := (hr r h).1; omega)
    have hsum : f_M_sumOf (s, pw_lay (pw_σ b) (J, L, ρ)) (some (b + 218)) (nI (120 * i)) (nI (120 * i + (pn_ents t.2.1 t.2.2.2.2).length)) = some (lN (pn_sumL (pn_ents t.2.1 t.2.2.2.2))) := by
      have e := pm_sumOf (s := s) (μ := (J, L, ρ)) (σ := pw_σ b) (a := b + 218) (N := 1440) (b := fun c => (pn_ents t.2.1 t.2.2.2.2).getD (c - 120 * i) 0) (p := 120 * i) (k := (pn_ents t.2.1 t.2.2.2.2).length) (pw_σ_at b 218) (by decide) (by omega) (fun c => hqE.getD _) (fun j hj => by
        rw [Nat.add_sub_cancel_left]
        exact hX j hj)
      rw [e]
      unfold pn_sumL
      congr 2
      refine pn_sum_congr fun j hj => ?_
      rw [Nat.add_sub_cancel_left, Nat.zero_add]
    dsimp only
    rw [mg_8 hP, Option.bind_some, hsum, Option.bind_some]
    generalize hS : lN (pn_sumL (pn_ents t.2.1 t.2.2.2.2)) = S
    have hmk : pn_mkh t.2.1 t.2.2.2.2 = pn_ents t.2.1 t.2.2.2.2 ++ pn_bys S 4 := by unfold pn_mkh; rw [hS]
    have four : ∀ m (Y : List Nat) (K : mN), m ≤ 4 → Y.length ≤ 104 → Y ++ pn_bys S m = pn_ents t.2.1 t.2.2.2.2 ++ pn_bys S 4 → hA K b i Y → mfr I K (fun a k => mC b i a k ∧ a = b + 218) → ∃ K', aw_wh (σ := Int32 × Int32 × aw_W) (τ := Int32 × Int32 × aw_W) (fun s20 =>
        if s20.2.1 < 0 then
          some (.inr (s20.1, s20.2.1, s20.2.2))
        else
          (aw_gR s20.2.2 (some (b + 211)) 7 8).bind fun v21 =>
          (aw_sI s20.2.2 v21 1 s20.1 (((aj_lshr S ((8 : Int32) * s20.2.1)) &&& (255 : Int64)).toInt32)).bind fun v22 =>
          some (.inl (s20.1 + 1, s20.2.1 + (-1), v22))) (nI (120 * i + Y.length), nI m - 1, (s, pw_lay (pw_σ b) (K, L, ρ))) = some (nI (120 * i + (pn_mkh t.2.1 t.2.2.2.2).length), -1, (s, pw_lay (pw_σ b) (K', L, ρ))) ∧ hA K' b i (pn_mkh t.2.1 t.2.2.2.2) ∧ mfr I K' (fun a k => mC b i a k ∧ a = b + 218) := by
      intro m
      induction m with
      | zero =>
        intro Y K _ _ hY hK gK
        rw [pn_bys, List.append_nil] at hY
        refine ⟨K, aw_wh_out ?_, by rw [hmk, ← hY]; exact hK, gK⟩
        dsimp only
        rw [if_pos (by decide), hmk, ← hY]
        rfl
      | succ m ih =>
        intro Y K hm hYl hY hK gK
        have hlen : Y.length + (m + 1) = (pn_ents t.2.1 t.2.2.2.2).length + 4 := by
          have := congrArg List.length hY
          rw [List.length_append, List.length_append, pn_bys_len, pn_bys_len] at this
          exact this
        obtain ⟨K', x1, x2, x3⟩ := ih (Y ++ [pn_by S m]) _ (by omega) (by rw [List.length_append, List.length_singleton]; omega) (by rw [← hY, pn_bys, List.append_assoc]; rfl) (hK.add (pn_by S m)) (gK.trans (Qh (by omega)))
        refine ⟨K', (aw_wh_in ?_).trans x1, x2, x3⟩
        dsimp only
        rw [nI_pred, if_neg (nI_pos (by omega)), mg_8 hP, Option.bind_some, by_mod32 S (by omega), ms_218 (by omega), Option.bind_some, nI_1, List.length_append, List.length_singleton, ← Nat.add_assoc, show nI m + (-1) = nI m - 1 from (Int32.sub_eq_add_neg (nI m) 1).symm]
    obtain ⟨K', x1, x2, x3⟩ := four 4 (pn_ents t.2.1 t.2.2.2.2) J (Nat.le_refl _) (by omega) rfl hX g
    have wK := h.hint0 hH (mono0 x3)
    have hml : (pn_mkh t.2.1 t.2.2.2.2).length = (pn_ents t.2.1 t.2.2.2.2).length + 4 := by rw [hmk, List.length_append, pn_bys_len]
    rw [show ((3 : Int32)) = nI 4 - 1 by decide, x1, Option.bind_some, mg_7 hP, Option.bind_some]
    dsimp only
    have esub : nI (120 * i + (pn_mkh t.2.1 t.2.2.2.2).length) - nI (120 * i) = nI (pn_mkh t.2.1 t.2.2.2.2).length := by
      rw [Nat.add_comm, ← nI_add]
      exact Int32.add_sub_cancel _ _
    rw [esub, ms_217 hi, Option.bind_some, mg_6 hP, Option.bind_some, ms_216 hi]
    refine ⟨_, rfl, ?_, ((x3.mono (fun a k hk => ⟨hk.1, by omega⟩)).trans (mfr.uI ⟨Or.inl ⟨by omega, rfl⟩, by omega⟩)).trans (mfr.uI ⟨Or.inl ⟨by omega, rfl⟩, by omega⟩)⟩
    obtain ⟨h1, h2, h3, h4, h5, h6, h7, h8⟩ := wK
    have hne : pn_mkh t.2.1 t.2.2.2.2 ≠ [] := fun hc => by rw [hc] at hml; exact absurd hml (by simp)
    refine ⟨?_, ?_, fun k hk => ?_, ?_, fun hn => ?_, fun k hk => ?_, ?_, fun k r hr => ?_⟩
    · rw [uI_ne (by omega), uI_ne (by omega)]; exact h1
    · rw [uI_ne (by omega), uI_ne (by omega)]; exact h2
    · rw [uI_ne (by omega), uI_ne (by omega)]; exact h3 k hk
    · rw [uI_at, if_neg hne]
    · rw [uI_ne (by omega), uI_at]
    · rw [uI_ne (by omega), uI_ne (by omega)]; exact x2 k hk
    · rw [uI_ne (by omega), uI_ne (by omega)]; exact h7
    · rw [uI_ne (by omega), uI_ne (by omega), uI_ne (by omega), uI_ne (by omega), uI_ne (by omega), uI_ne (by omega)]; exact h8 k r hr
end
