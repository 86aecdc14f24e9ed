/-! ===== a file learns its records from its hint ===== -/
/-- the entries of a hint from q on, for a file of n bytes, the next record's place being p -/
def pn_ht (H : List Nat) (e n : Nat) : Nat → Nat → Nat → Option (List qr)
  | 0, p, q => if q = e ∧ p = n then some [] else none
  | m + 1, p, q => if e ≤ q then (if q = e ∧ p = n then some [] else none) else
    if 1 ≤ H.getD (q + 2) 0 ∧ H.getD (q + 2) 0 ≤ 4 ∧ H.getD (q + 3) 0 ≤ 8 ∧ H.getD (q + 4) 0 = p ∧ q + 5 + H.getD (q + 2) 0 ≤ e ∧ p + pn_len (H.getD (q + 2) 0) (H.getD (q + 3) 0) ≤ n then
      (pn_ht H e n m (p + pn_len (H.getD (q + 2) 0) (H.getD (q + 3) 0)) (q + 5 + H.getD (q + 2) 0)).map (fun rs => (p, H.getD (q + 2) 0, pn_num (fun i => H.getD i 0) (q + 5) (H.getD (q + 2) 0), H.getD (q + 3) 0) :: rs)
    else none
/-- what a hint tells of a file of n bytes -/
def pn_hint (H : List Nat) (n : Nat) : Option (List qr) := if H.length < 4 then none else if pn_num (fun i => H.getD i 0) (H.length - 4) 4 = pn_sum (fun i => H.getD i 0) 0 (H.length - 4) then pn_ht H (H.length - 4) n 11 0 0 else none
section
variable {σ : Nat → Option pw_Sh} {μ : pw_Mem} {s : Option Nat} {f : Nat} {t : qf}
theorem qF_hat (h : qF σ μ f t) {i : Nat} (hi : i < 2 ^ 31) : f_O_at (s, pw_lay σ μ) (some (f + 3)) (nI i) = some (nI (t.2.2.2.1.getD i 0)) := by
  rw [pl_at h.2.2.2.1 hi, pw_map_getD]
theorem qF_hnum (h : qF σ μ f t) (hB : qB t.2.2.2.1) {p k : Nat} (hp : p + k < 2 ^ 31) : f_O_number (s, pw_lay σ μ) (some (f + 3)) (nI p) (nI k) = some (lN (pn_num (fun i => t.2.2.2.1.getD i 0) p k)) := by
  rw [pl_number h.2.2.2.1 hp, pw_map_fun, pw_num_n hB.getD]
theorem qF_hsum (h : qF σ μ f t) (hB : qB t.2.2.2.1) {k : Nat} (hp : k < 2 ^ 31) : f_O_sum (s, pw_lay σ μ) (some (f + 3)) 0 (nI k) = some (lN (pn_sum (fun i => t.2.2.2.1.getD i 0) 0 k)) := by
  have := pl_sum (s := s) h.2.2.2.1 (p := 0) (k := k) (by omega)
  rw [Nat.zero_add] at this
  rw [show (0 : Int32) = nI 0 from rfl, this, pw_map_fun, pw_sum_n hB.getD]
theorem qF_hsize (h : qF σ μ f t) : f_O_size (s, pw_lay σ μ) (some (f + 3)) = some (nI t.2.2.2.1.length) := by rw [po_size h.2.2.2.1.1, pw_map_len]
theorem qF_g0 (h : qF σ μ f t) : aw_gR (s, pw_lay σ μ) (some f) 6 0 = some (some (f + 1)) := by
  rw [pg_F_0, pw_ob_of h.1.1]
  exact congrArg some h.2.1.1
theorem qF_g1 (h : qF σ μ f t) : aw_gR (s, pw_lay σ μ) (some f) 6 1 = some (some (f + 3)) := by
  rw [pg_F_1, pw_ob_of h.1.1]
  exact congrArg some h.2.1.2.1
theorem qF_g2 (h : qF σ μ f t) : aw_gR (s, pw_lay σ μ) (some f) 6 2 = some (some (f + 5)) := by
  rw [pg_F_2, pw_ob_of h.1.1]
  exact congrArg some h.2.1.2.2.1
theorem qF_g3 (h : qF σ μ f t) : aw_gI (s, pw_lay σ μ) (some f) 6 3 = some (nI t.2.2.2.2.length) := by
  rw [pg_F_3, pw_ob_of h.1.1]
  exact congrArg some h.2.2.2.2.2.2.1
theorem qF_ob (h : qF σ μ f t) : aw_obj (s, pw_lay σ μ) (some f) 6 = some (f, pw_fs μ f 6) := by
  rw [pw_obj, pw_ob_of h.1.1]
  rfl
theorem qF_ob1 (h : qF σ μ f t) : aw_obj (s, pw_lay σ μ) (some (f + 1)) 3 = some (f + 1, pw_fs μ (f + 1) 3) := by
  rw [pw_obj, pw_ob_of h.1.2.1]
  rfl
theorem qF_ob3 (h : qF σ μ f t) : aw_obj (s, pw_lay σ μ) (some (f + 3)) 3 = some (f + 3, pw_fs μ (f + 3) 3) := by
  rw [pw_obj, pw_ob_of h.1.2.2.2.1]
  rfl
theorem qF_rob (h : qF σ μ f t) {i : Nat} (hi : i < 11) : aw_obj (s, pw_lay σ μ) (some (f + 6 + i)) 4 = some (f + 6 + i, pw_fs μ (f + 6 + i) 4) := by
  rw [pw_obj, pw_ob_of (h.1.2.2.2.2.2.2 i hi)]
  rfl
theorem qF_rec (h : qF σ μ f t) {i : Nat} (hi : i < 11) : aw_aR (s, pw_lay σ μ) (some (f + 5)) 4 (nI i) = some (some (f + 6 + i)) := by
  rw [pw_aR_4, pw_aa_of h.1.2.2.2.2.2.1]
  simp only [Option.bind_some]
  rw [aw_ix_nI hi (by decide)]
  exact congrArg some (h.2.1.2.2.2.2.2 i hi)
theorem qF_hint (h : qF σ μ f t) (hH : qB t.2.2.2.1) : pTr σ s (fun a μ' => pw_fr μ μ' (pw_in f) ∧ ((a = 1 ∧ ∃ rs, pn_hint t.2.2.2.1 t.2.1.length = some rs ∧ qF σ μ' f (t.1, t.2.1, t.2.2.1, t.2.2.2.1, rs)) ∨ (a = 0 ∧ pn_hint t.2.2.2.1 t.2.1.length = none ∧ ∃ rs, qF σ μ' f (t.1, t.2.1, t.2.2.1, t.2.2.2.1, rs)))) (f_F_learnFromHint (s, pw_lay σ μ) (some f)) := by
  have hl := qF_len h
  have hhl := qF_hlen h
  unfold f_F_learnFromHint
  simp only [qF_g1 h, qF_ob3 h, qF_hsize h, Option.bind_some]
  generalize hR : pn_hint t.2.2.2.1 t.2.1.length = R
  unfold pn_hint at hR
  by_cases c4 : t.2.2.2.1.length < 4
  · rw [if_pos c4] at hR
    have hlt : nI t.2.2.2.1.length - (4 : Int32) < 0 := by
      have h9 : ∀ j : Fin 4, nI j.val - (4 : Int32) < 0 := by decide +kernel
      exact h9 ⟨_, c4⟩
    rw [if_pos hlt]
    exact ⟨0, μ, rfl, pw_fr.rfl, Or.inr ⟨rfl, hR.symm, _, h⟩⟩
  · rw [if_neg c4] at hR
    obtain ⟨e, he⟩ : ∃ e, t.2.2.2.1.length = e + 4 := ⟨t.2.2.2.1.length - 4, by omega⟩
    have hsub : nI t.2.2.2.1.length - (4 : Int32) = nI e := by
      rw [he, ← nI_add]
      exact Int32.add_sub_cancel _ _
    rw [show t.2.2.2.1.length - 4 = e by omega] at hR
    rw [hsub, if_neg (nI_pos (by omega)), show (4 : Int32) = nI 4 from rfl, qF_hnum h hH (by omega), Option.bind_some, qF_hsum h hH (by omega), Option.bind_some]
    have e1 := pn_num_lt hH.getD e 4
    have e2 := pn_sum_lt hH.getD 0 e
    by_cases cs : pn_num (fun i => t.2.2.2.1.getD i 0) e 4 = pn_sum (fun i => t.2.2.2.1.getD i 0) 0 e
    · rw [if_pos cs] at hR
      rw [if_pos ((lg_cmp_eq _ _).mpr ((lN_eq63 (by omega) (by omega)).mpr cs)), show (Value.int 0) = Value.int (nI 0) from rfl, pp_F_3, pw_ob_of h.1.1]
      simp only [Option.map_some, Option.bind_some]
      refine pw_loopG (G := pTr σ s _) 11 (fun n a => ∃ p q i μ1 rs, a = (nI p, nI q, nI i, (s, pw_lay σ μ1)) ∧ qF σ μ1 f (t.1, t.2.1, t.2.2.1, t.2.2.2.1, rs) ∧ pw_fr μ μ1 (pw_in f) ∧ rs.length = i ∧ n + i = 11 ∧ p ≤ 20 * i ∧ q ≤ 9 * i ∧ ((pn_ht t.2.2.2.1 e t.2.1.length n p q).map (fun l => rs ++ l) = R ∨ ((e < q ∨ t.2.1.length < p) ∧ R = none)))
        (fun r => match r with
          | .inl a => ∃ p q i μ1 rs, a = (nI p, nI q, nI i, (s, pw_lay σ μ1)) ∧ qF σ μ1 f (t.1, t.2.1, t.2.2.1, t.2.2.2.1, rs) ∧ pw_fr μ μ1 (pw_in f) ∧ p ≤ 220 ∧ q ≤ 99 ∧ R = if q = e ∧ p = t.2.1.length then some rs else none
          | .inr a => ∃ μ1 rs, a = (0, (s, pw_lay σ μ1)) ∧ qF σ μ1 f (t.1, t.2.1, t.2.2.1, t.2.2.2.1, rs) ∧ pw_fr μ μ1 (pw_in f) ∧ R = none) ?_ ?_ ?_
      · refine ⟨0, 0, 0, _, [], rfl, qF_count0 h, pw_fr.sI ⟨by omega, by omega⟩, rfl, rfl, by omega, by omega, Or.inl ?_⟩
        rw [← hR]
        cases pn_ht t.2.2.2.1 e t.2.1.length 11 0 0 <;> rfl
      · rintro n a ⟨p, q, i, μ1, rs, rfl, Q, g, hi, hn, hp, hq, hcase⟩
        dsimp only
        have hexit : (n = 0 ∨ e ≤ q) → R = if q = e ∧ p = t.2.1.length then some rs else none := by
          intro hx
          rcases hcase with hc | ⟨hb, hc⟩
          · rw [← hc]
            cases n with
            | zero =>
              rw [pn_ht]
              split <;> simp
            | succ m =>
              rw [pn_ht, if_pos (by omega)]
              split <;> simp
          · rw [hc, if_neg (by omega)]
        by_cases h11 : i = 11
        · right
          refine ⟨_, if_pos (by rw [h11]; decide), ?_⟩
          exact ⟨p, q, i, μ1, rs, rfl, Q, g, by omega, by omega, hexit (Or.inl (by omega))⟩
        · rw [if_neg (show ¬ (11 : Int32) ≤ nI i from nI_ge (b := 11) (by omega) (by decide))]
          by_cases heq : e ≤ q
          · right
            refine ⟨_, if_pos (nI_le heq (by omega)), ?_⟩
            exact ⟨p, q, i, μ1, rs, rfl, Q, g, by omega, by omega, hexit (Or.inr heq)⟩
          · obtain ⟨m, rfl⟩ : ∃ m, n = m + 1 := ⟨n - 1, by omega⟩
            have hk := hH.getD (q + 2)
            have hv := hH.getD (q + 3)
            have hpl := hH.getD (q + 4)
            rw [if_neg (nI_ge (by omega) (by omega))]
            simp only [qF_g1 Q, qF_ob3 Q, Option.bind_some]
            rw [show nI q + (2 : Int32) = nI (q + 2) from nI_add q 2, show nI q + (3 : Int32) = nI (q + 3) from nI_add q 3, show nI q + nI 4 = nI (q + 4) from nI_add q 4, show nI q + (5 : Int32) = nI (q + 5) from nI_add q 5, qF_hat Q (by omega), Option.bind_some, qF_hat Q (by omega), Option.bind_some]
            dsimp only
            rw [pn_ht, if_neg (by omega)] at hcase
            rw [pk_isKey (by omega), Option.bind_some]
            have bad : ¬ (1 ≤ t.2.2.2.1.getD (q + 2) 0 ∧ t.2.2.2.1.getD (q + 2) 0 ≤ 4 ∧ t.2.2.2.1.getD (q + 3) 0 ≤ 8 ∧ t.2.2.2.1.getD (q + 4) 0 = p) → R = none := by
              intro hb
              rcases hcase with hc | ⟨_, hc⟩
              · rw [← hc, if_neg (fun hx => hb ⟨hx.1, hx.2.1, hx.2.2.1, hx.2.2.2.1⟩)]
                rfl
              · exact hc
            by_cases ck : 1 ≤ t.2.2.2.1.getD (q + 2) 0 ∧ t.2.2.2.1.getD (q + 2) 0 ≤ 4
            · rw [if_pos ck, if_neg (by decide), pk_isVal (by omega), Option.bind_some]
              by_cases cv : t.2.2.2.1.getD (q + 3) 0 ≤ 8
              · rw [if_pos cv, if_neg (by decide), qF_hat Q (by omega), Option.bind_some]
                dsimp only
                by_cases cp : t.2.2.2.1.getD (q + 4) 0 = p
                · have hlen := pn_len_le ck.2 (Or.inl cv)
                  have hnum := pn_num_lt hH.getD (q + 5) (t.2.2.2.1.getD (q + 2) 0)
                  obtain ⟨μ2, n1, n2, n3⟩ := qF_note (s := s) Q (by dsimp only; omega) p (t.2.2.2.1.getD (q + 2) 0) (pn_num (fun i => t.2.2.2.1.getD i 0) (q + 5) (t.2.2.2.1.getD (q + 2) 0)) (t.2.2.2.1.getD (q + 3) 0) none
                  left
                  refine ⟨m, (nI (p + pn_len (t.2.2.2.1.getD (q + 2) 0) (t.2.2.2.1.getD (q + 3) 0)), nI (q + 5 + t.2.2.2.1.getD (q + 2) 0), nI (i + 1), (s, pw_lay σ μ2)), Nat.lt_succ_self m, ?_, _, _, i + 1, μ2, _, rfl, n2, g.trans n3, ?_, by omega, by omega, by omega, ?_⟩
                  · rw [if_pos (by rw [cp]), qF_hnum Q hH (by omega), Option.bind_some]
                    dsimp only
                    rw [pk_rank_num hnum ck.1 ck.2, Option.bind_some, qF_ob Q, Option.bind_some, n1, Option.bind_some, pk_recordBytes (by omega), Option.bind_some, nI_add, show (5 : Int32) + nI (t.2.2.2.1.getD (q + 2) 0) = nI (5 + t.2.2.2.1.getD (q + 2) 0) from nI_add 5 _, nI_add, nI_1, Nat.add_assoc q 5]
                  · rw [List.length_append, List.length_singleton, hi]
                  · rcases hcase with hc | ⟨hb, hc⟩
                    · by_cases cc : q + 5 + t.2.2.2.1.getD (q + 2) 0 ≤ e ∧ p + pn_len (t.2.2.2.1.getD (q + 2) 0) (t.2.2.2.1.getD (q + 3) 0) ≤ t.2.1.length
                      · rw [if_pos ⟨ck.1, ck.2, cv, cp, cc.1, cc.2⟩, Option.map_map] at hc
                        left
                        rw [← hc]
                        congr 1
                        funext l
                        simp
                      · rw [if_neg (fun hx => cc ⟨hx.2.2.2.2.1, hx.2.2.2.2.2⟩)] at hc
                        right
                        exact ⟨by omega, hc.symm⟩
                    · right
                      exact ⟨by omega, hc⟩
                · right
                  refine ⟨_, if_neg (fun hc => cp ((nI_eq (by omega) (by omega)).mp hc)), ?_⟩
                  exact ⟨μ1, rs, rfl, Q, g, bad (fun hx => cp hx.2.2.2)⟩
              · right
                rw [if_neg cv]
                refine ⟨_, if_pos rfl, ?_⟩
                exact ⟨μ1, rs, rfl, Q, g, bad (fun hx => cv hx.2.2.1)⟩
            · right
              rw [if_neg ck]
              refine ⟨_, if_pos rfl, ?_⟩
              exact ⟨μ1, rs, rfl, Q, g, bad (fun hx => ck ⟨hx.1, hx.2.1⟩)⟩
      · intro r hr
        cases r with
        | inl a =>
          obtain ⟨p, q, i, μ1, rs, rfl, Q, g, hp, hq, e9⟩ := hr
          dsimp only
          by_cases cq : q = e
          · rw [if_pos (by rw [cq])]
            simp only [qF_g0 Q, qF_ob1 Q, qF_size Q, Option.bind_some]
            by_cases cp : p = t.2.1.length
            · rw [if_pos (by rw [cp]), Option.bind_some, aw_zz_1]
              rw [if_pos ⟨cq, cp⟩] at e9
              exact ⟨1, μ1, rfl, g, Or.inl ⟨rfl, rs, e9, Q⟩⟩
            · rw [if_neg (fun hc => cp ((nI_eq (by omega) (by omega)).mp hc)), Option.bind_some, aw_zz_0]
              rw [if_neg (fun hc => cp hc.2)] at e9
              exact ⟨0, μ1, rfl, g, Or.inr ⟨rfl, e9, rs, Q⟩⟩
          · rw [if_neg (fun hc => cq ((nI_eq (by omega) (by omega)).mp hc)), Option.bind_some, aw_zz_0]
            rw [if_neg (fun hc => cq hc.1)] at e9
            exact ⟨0, μ1, rfl, g, Or.inr ⟨rfl, e9, rs, Q⟩⟩
        | inr a =>
          obtain ⟨μ1, rs, rfl, Q, g, e9⟩ := hr
          exact ⟨0, μ1, rfl, g, Or.inr ⟨rfl, e9, rs, Q⟩⟩
    · rw [if_neg cs] at hR
      rw [if_neg (fun hc => cs ((lN_eq63 (by omega) (by omega)).mp ((lg_cmp_eq _ _).mp hc)))]
      exact ⟨0, μ, rfl, pw_fr.rfl, Or.inr ⟨rfl, hR.symm, _, h⟩⟩
end
