/-! ===== the directory comes to point to the copies ===== -/
/-- no entry is a tombstone -/
def dN (φ : Nat → qf) (D : List (Nat × Nat × Nat)) : Prop := ∀ e ∈ D, ∀ r, (φ e.2.1).2.2.2.2[e.2.2]? = some r → r.2.2.2 ≠ 255
def pd_rep (D : List (Nat × Nat × Nat)) (x : Nat) (q c : Nat × Nat) : List (Nat × Nat × Nat) := if pe_find x D = some q then pe_en x c false D else D
def pd_out (rk : Nat → Nat) (sr : Nat → Nat × Nat) (f : Nat) : Nat → List (Nat × Nat × Nat) → List (Nat × Nat × Nat)
  | 0, D => D
  | j + 1, D => pd_rep (pd_out rk sr f j D) (rk j) (sr j) (f, j)
/-- the rank of the record j -/
def pn_rk (t : qf) (j : Nat) : Nat := pn_rank (t.2.2.2.2.getD j (0, 0, 0, 0)).2.1 (t.2.2.2.2.getD j (0, 0, 0, 0)).2.2.1
section
variable {μ μ' : pw_Mem} {s : Option Nat} {b : Nat} {fs : List Nat} {φ : Nat → qf} {D : List (Nat × Nat × Nat)}
theorem kE_enter (hE : kE μ b D) (hF : kF μ b φ) (ok : dOK φ fs D) (hb : ∀ f ∈ fs, isB b f) (hv : ∀ f, isB b f → qV (φ f)) {f i : Nat} (hf : isB b f) {r : qr} (hr : (φ f).2.2.2.2[i]? = some r) (hl : D.length < 66 ∨ pe_find (pn_rank r.2.1 r.2.2.1) D ≠ none) :
    ∃ μ', f_D_enter (s, pw_lay (pw_σ b) μ) (some (b + 105)) (some (f + 6 + i)) = some (s, pw_lay (pw_σ b) μ') ∧ kE μ' b (pe_en (pn_rank r.2.1 r.2.2.1) (f, i) (decide (r.2.2.2 = 255)) D) ∧ pw_fr μ μ' (pw_inD (b + 105)) := by
  have hi := (List.getElem?_eq_some_iff.mp hr).1
  have q := hF f hf
  have h11 := q.2.2.2.2.2.2.2.1
  have kd := kD_of hE hF ok hb hv
  have hrV := (hv f hf).2.2.2.2 r (List.mem_of_getElem? hr)
  obtain ⟨r1, r2, r3, r4⟩ := q.2.2.2.2.2.2.2.2 i r hr
  obtain ⟨μ1, e1, k1, g1⟩ := kD_enter (s := s) kd (r := f + 6 + i) (v := r.2.2.2) (q.1.2.2.2.2.2.2 i (by omega)) hrV.rank r3 r4 (by have := hrV.2.2.2.1; omega) (by
    rw [List.length_map]
    refine hl.imp id (fun h => ?_)
    rw [pe_find_map]
    cases hp : pe_find (pn_rank r.2.1 r.2.2.1) D with
    | none => exact absurd hp h
    | some q => exact fun hc => nomatch hc)
  refine ⟨μ1, e1, ?_, g1⟩
  have e9 : pe_en (pn_rank r.2.1 r.2.2.1) (f + 6 + i) (decide (r.2.2.2 = 255)) (D.map fun e => (e.1, ad e.2)) = (pe_en (pn_rank r.2.1 r.2.2.1) (f, i) (decide (r.2.2.2 = 255)) D).map fun e => (e.1, ad e.2) := pe_en_map ad _ (f, i) _ D
  rw [e9] at k1
  have k2 := k1.1
  rw [List.map_map] at k2
  exact k2
theorem dOK.en (ok : dOK φ fs D) (hs : dS D) {f i : Nat} {r : qr} (hf : f ∈ fs) (hr : (φ f).2.2.2.2[i]? = some r) (t : Bool) : dOK φ fs (pe_en (pn_rank r.2.1 r.2.2.1) (f, i) t D) := fun e he => by
  rcases (pe_en_mem hs).mp he with ⟨h1, -⟩ | ⟨-, rfl⟩
  · exact ok e h1
  · exact ⟨hf, r, hr, rfl⟩
theorem dN.en (hn : dN φ D) (hs : dS D) {f i x : Nat} {t : Bool} (h : t = false → ∀ r, (φ f).2.2.2.2[i]? = some r → r.2.2.2 ≠ 255) : dN φ (pe_en x (f, i) t D) := fun e he => by
  rcases (pe_en_mem hs).mp he with ⟨h1, -⟩ | ⟨h0, rfl⟩
  · exact hn e h1
  · exact h h0
theorem kE_copies (hE : kE μ b D) (hF : kF μ b φ) (ok : dOK φ fs D) (hb : ∀ f ∈ fs, isB b f) (hv : ∀ f, isB b f → qV (φ f)) (hn : dN φ D) (hs : dS D) {f : Nat} (hf : isB b f) (hffs : f ∈ fs) (sr : Nat → Nat × Nat)
    (hsr : ∀ j, j < (φ f).2.2.2.2.length → μ.2.2 (f + 6 + j) 4 = some (ad (sr j)) ∧ isB b (sr j).1 ∧ ∃ r r', (φ (sr j).1).2.2.2.2[(sr j).2]? = some r ∧ (φ f).2.2.2.2[j]? = some r' ∧ r'.2 = r.2) :
    pT (pw_σ b) s (fun μ' => kE μ' b (pd_out (pn_rk (φ f)) sr f (φ f).2.2.2.2.length D) ∧ pw_fr μ μ' (pw_inD (b + 105)) ∧ dOK φ fs (pd_out (pn_rk (φ f)) sr f (φ f).2.2.2.2.length D) ∧ dN φ (pd_out (pn_rk (φ f)) sr f (φ f).2.2.2.2.length D) ∧ dS (pd_out (pn_rk (φ f)) sr f (φ f).2.2.2.2.length D)) (f_G_pointToCopies (s, pw_lay (pw_σ b) μ) (some f) (some (b + 105))) := by
  have h11 := (hF f hf).2.2.2.2.2.2.2.1
  unfold f_G_pointToCopies
  refine pw_loopG (G := pT (pw_σ b) s _) (φ f).2.2.2.2.length (fun n a => ∃ j μ1, a = (nI j, (s, pw_lay (pw_σ b) μ1)) ∧ n + j = (φ f).2.2.2.2.length ∧ kE μ1 b (pd_out (pn_rk (φ f)) sr f j D) ∧ pw_fr μ μ1 (pw_inD (b + 105)) ∧ dOK φ fs (pd_out (pn_rk (φ f)) sr f j D) ∧ dN φ (pd_out (pn_rk (φ f)) sr f j D) ∧ dS (pd_out (pn_rk (φ f)) sr f j D))
    (fun a => ∃ j μ1, a = (j, (s, pw_lay (pw_σ b) μ1)) ∧ kE μ1 b (pd_out (pn_rk (φ f)) sr f (φ f).2.2.2.2.length D) ∧ pw_fr μ μ1 (pw_inD (b + 105)) ∧ dOK φ fs (pd_out (pn_rk (φ f)) sr f (φ f).2.2.2.2.length D) ∧ dN φ (pd_out (pn_rk (φ f)) sr f (φ f).2.2.2.2.length D) ∧ dS (pd_out (pn_rk (φ f)) sr f (φ f).2.2.2.2.length D)) ⟨0, μ, rfl, rfl, hE, pw_fr.rfl, ok, hn, hs⟩ ?_ ?_
  · rintro n a ⟨j, μ1, rfl, hnj, k1, g1, ok1, n1, s1⟩
    have hF1 := hF.fr g1 (fun a ha hc => by unfold pw_inD at hc; omega)
    have q := hF1 f hf
    dsimp only
    rw [qF_ob q, Option.bind_some, pf_count q.1, Option.bind_some, q.2.2.2.2.2.2.1]
    by_cases c : j < (φ f).2.2.2.2.length
    · obtain ⟨m1, m2, r, r', m3, m4, m5⟩ := hsr j c
      have hrec : aw_gR (s, pw_lay (pw_σ b) μ1) (some (f + 6 + j)) 4 4 = some (some (ad (sr j))) := by
        rw [pg_R_4, pw_ob_of (q.1.2.2.2.2.2.2 j (by omega))]
        simp only [Option.map_some]
        rw [(g1 _ (fun hc => by
          unfold pw_inD at hc
          exact hf.ne (a := f + 6 + j) (by omega) ⟨by omega, by omega⟩)).2.2, m1]
      have hrk : pn_rk (φ f) j = pn_rank r.2.1 r.2.2.1 := by
        unfold pn_rk
        have : (φ f).2.2.2.2.getD j (0, 0, 0, 0) = r' := by unfold List.getD; rw [m4]; rfl
        rw [this, m5]
      left
      have main : ∃ μ2, f_D_replace (s, pw_lay (pw_σ b) μ1) (some (b + 105)) (some (ad (sr j))) (some (f + 6 + j)) = some (s, pw_lay (pw_σ b) μ2) ∧ kE μ2 b (pd_out (pn_rk (φ f)) sr f (j + 1) D) ∧ pw_fr μ1 μ2 (pw_inD (b + 105)) ∧ dOK φ fs (pd_out (pn_rk (φ f)) sr f (j + 1) D) ∧ dN φ (pd_out (pn_rk (φ f)) sr f (j + 1) D) ∧ dS (pd_out (pn_rk (φ f)) sr f (j + 1) D) := by
        unfold f_D_replace
        rw [if_neg (fun hc => nomatch hc), kD_ob, Option.bind_some, show some (ad (sr j)) = some ((sr j).1 + 6 + (sr j).2) from rfl, kD_hasRec k1 hF1 ok1 hb hv m2 m3, Option.bind_some]
        rw [pd_out]
        unfold pd_rep
        rw [hrk]
        by_cases hp : pe_find (pn_rank r.2.1 r.2.2.1) (pd_out (pn_rk (φ f)) sr f j D) = some (sr j)
        · have hp' : pe_find (pn_rank r.2.1 r.2.2.1) (pd_out (pn_rk (φ f)) sr f j D) = some ((sr j).1, (sr j).2) := hp
          obtain ⟨μ2, e2, k2, g2⟩ := kE_enter (s := s) k1 hF1 ok1 hb hv hf m4 (Or.inr (by rw [m5, hp]; exact fun hc => nomatch hc))
          have hv5 : r.2.2.2 ≠ 255 := n1 _ (pe_find_in hp) r m3
          have hd : decide (r'.2.2.2 = 255) = false := by rw [m5]; simpa using hv5
          rw [if_pos hp', if_neg (by decide), Option.bind_some, e2, if_pos hp]
          rw [hd, m5] at k2
          refine ⟨μ2, rfl, k2, g2, ?_, n1.en s1 (fun _ r0 h0 => ?_), s1.en⟩
          · have := ok1.en s1 hffs m4 false
            rw [m5] at this
            exact this
          · rw [m4] at h0
            cases h0
            rw [m5]
            exact hv5
        · have hp' : ¬ pe_find (pn_rank r.2.1 r.2.2.1) (pd_out (pn_rk (φ f)) sr f j D) = some ((sr j).1, (sr j).2) := hp
          rw [if_neg hp', if_pos rfl, if_neg hp]
          exact ⟨μ1, rfl, k1, pw_fr.rfl, ok1, n1, s1⟩
      obtain ⟨μ2, e2, k2, g2, ok2, n2, s2⟩ := main
      refine ⟨n - 1, (nI (j + 1), (s, pw_lay (pw_σ b) μ2)), by omega, ?_, j + 1, μ2, rfl, by omega, k2, g1.trans g2, ok2, n2, s2⟩
      rw [if_neg (nI_ge c (by omega)), Option.bind_some, qF_record q c, Option.bind_some, if_neg (fun hc => nomatch hc), hrec, Option.bind_some, kD_ob, Option.bind_some, e2, Option.bind_some, Option.bind_some, nI_1]
    · right
      have : j = (φ f).2.2.2.2.length := by omega
      subst this
      exact ⟨_, if_pos (nI_le (by omega) (by omega)), nI _, μ1, rfl, k1, g1, ok1, n1, s1⟩
  · rintro a ⟨j, μ1, rfl, k1, g1, ok1, n1, s1⟩
    exact ⟨μ1, rfl, k1, g1, ok1, n1, s1⟩
end
