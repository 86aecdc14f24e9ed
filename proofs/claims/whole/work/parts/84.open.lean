/-! ===== the store is begun anew from its files ===== -/
theorem pn_lrn_spec {B : List Nat} (hB : qB B) (hl : B.length ≤ 100) : ∀ n p, p ≤ B.length → qCh p (pn_lrn B n p).1 (pn_lrn B n p).2 ∧ (pn_lrn B n p).2 ≤ B.length ∧ (∀ r ∈ (pn_lrn B n p).1, rV r) ∧ (pn_lrn B n p).1.length ≤ n
  | 0, p, hp => ⟨rfl, hp, fun r hr => (by cases hr), Nat.le_refl _⟩
  | n + 1, p, hp => by
    rw [pn_lrn]
    by_cases c : pn_snd B p = 0
    · rw [if_pos c]
      exact ⟨rfl, hp, fun r hr => (by cases hr), Nat.zero_le _⟩
    · rw [if_neg c]
      obtain ⟨s1, s2, s3, s4, s5, s6⟩ := pn_snd_spec c
      obtain ⟨i1, i2, i3, i4⟩ := pn_lrn_spec hB hl n (p + pn_snd B p) (by rw [s1]; exact s6)
      refine ⟨⟨rfl, ?_⟩, i2, fun r hr => ?_, ?_⟩
      · rw [s1] at i1
        rw [s1]
        exact i1
      · rcases List.mem_cons.mp hr with rfl | hr
        · exact ⟨s3, s4, pn_num_lt hB.getD _ _, s5, by dsimp only; omega⟩
        · exact i3 r hr
      · dsimp only
        rw [List.length_cons]
        omega
theorem pn_ht_spec {H : List Nat} (hH : qB H) {e n : Nat} (hn : n ≤ 100) : ∀ m p q rs, pn_ht H e n m p q = some rs → qCh p rs n ∧ (∀ r ∈ rs, rV r ∧ r.2.2.2 ≤ 8) ∧ rs.length ≤ m
  | 0, p, q, rs, h => by
    rw [pn_ht] at h
    split at h
    · next c => cases h; exact ⟨c.2, fun r hr => (by cases hr), Nat.le_refl _⟩
    · cases h
  | m + 1, p, q, rs, h => by
    rw [pn_ht] at h
    split at h
    · split at h
      · next c => cases h; exact ⟨c.2, fun r hr => (by cases hr), Nat.zero_le _⟩
      · cases h
    · split at h
      · next c =>
        obtain ⟨c1, c2, c3, c4, c5, c6⟩ := c
        cases hq : pn_ht H e n m (p + pn_len (H.getD (q + 2) 0) (H.getD (q + 3) 0)) (q + 5 + H.getD (q + 2) 0) with
        | none => rw [hq] at h; cases h
        | some t =>
          rw [hq] at h
          cases h
          obtain ⟨i1, i2, i3⟩ := pn_ht_spec hH hn m _ _ t hq
          refine ⟨⟨rfl, i1⟩, fun r hr => ?_, by rw [List.length_cons]; omega⟩
          rcases List.mem_cons.mp hr with rfl | hr
          · exact ⟨⟨c1, c2, pn_num_lt hH.getD _ _, Or.inl c3, by dsimp only; omega⟩, c3⟩
          · exact i2 r hr
      · cases h
theorem pt_learn_V {t : qf} (h : qV t) (hl : t.2.1.length ≤ 100) (b : Bool) : qV (pt_learn t b) ∧ (pt_learn t b).2.1.length ≤ 100 ∧ qCh 0 (pt_learn t b).2.2.2.2 (pt_learn t b).2.1.length ∧ (pt_learn t b).2.2.2.2.length ≤ 11 := by
  obtain ⟨h1, h2, h3, h4, h5⟩ := h
  have byB : qV (t.1, t.2.1.take (pn_lrn t.2.1 11 0).2, (t.2.1.take (pn_lrn t.2.1 11 0).2).length, t.2.2.2.1, (pn_lrn t.2.1 11 0).1) ∧ (t.2.1.take (pn_lrn t.2.1 11 0).2).length ≤ 100 ∧ qCh 0 (pn_lrn t.2.1 11 0).1 (t.2.1.take (pn_lrn t.2.1 11 0).2).length ∧ (pn_lrn t.2.1 11 0).1.length ≤ 11 := by
    obtain ⟨i1, i2, i3, i4⟩ := pn_lrn_spec h1 hl 11 0 (Nat.zero_le _)
    have e : (t.2.1.take (pn_lrn t.2.1 11 0).2).length = (pn_lrn t.2.1 11 0).2 := by rw [List.length_take]; omega
    refine ⟨⟨h1.sub (fun b hb => List.mem_of_mem_take hb), h2, h3, Nat.le_refl _, i3⟩, by rw [e]; omega, by rw [e]; exact i1, i4⟩
  unfold pt_learn
  cases b with
  | false => exact byB
  | true =>
    rw [if_pos rfl]
    cases hq : pn_hint t.2.2.2.1 t.2.1.length with
    | none => exact byB
    | some rs =>
      have : qCh 0 rs t.2.1.length ∧ (∀ r ∈ rs, rV r ∧ r.2.2.2 ≤ 8) ∧ rs.length ≤ 11 := by
        unfold pn_hint at hq
        split at hq
        · cases hq
        · split at hq
          · exact pn_ht_spec h2 hl _ _ _ _ hq
          · cases hq
      exact ⟨⟨h1, h2, h3, Nat.le_refl _, fun r hr => (this.2.1 r hr).1⟩, hl, this.1, this.2.2⟩
theorem pe_en_len' {α : Type} (x : Nat) (a : α) (t : Bool) (D : List (Nat × α)) : (pe_en x a t D).length ≤ D.length + 1 := by
  have h := congrArg List.length (pe_LR x D)
  rw [List.length_append] at h
  unfold pe_en pe_B
  cases hR : pe_R x D with
  | nil =>
    rw [hR, List.length_nil] at h
    simp only [List.length_append, List.length_nil]
    split <;> simp <;> omega
  | cons e t =>
    rw [hR, List.length_cons] at h
    simp only [List.length_append]
    split <;> split <;> simp <;> omega
/-- the first n records of the file f are entered -/
def pd_en (t : qf) (f : Nat) : Nat → List (Nat × Nat × Nat) → List (Nat × Nat × Nat)
  | 0, D => D
  | j + 1, D => pe_en (pn_rk t j) (f, j) (decide ((t.2.2.2.2.getD j (0, 0, 0, 0)).2.2.2 = 255)) (pd_en t f j D)
def φo (φ : Nat → qf) (sl : List Nat) (h : Bool) : Nat → Nat → qf
  | 0 => φ
  | i + 1 => pu (φo φ sl h i) (sl.getD i 0) (pt_learn (φ (sl.getD i 0)) h)
def pd_op (φ : Nat → qf) (sl : List Nat) (h : Bool) : Nat → List (Nat × Nat × Nat)
  | 0 => []
  | i + 1 => pd_en (pt_learn (φ (sl.getD i 0)) h) (sl.getD i 0) (pt_learn (φ (sl.getD i 0)) h).2.2.2.2.length (pd_op φ sl h i)
theorem φo_at {φ : Nat → qf} {sl : List Nat} {h : Bool} (hinj : ∀ i j, i < 6 → j < 6 → sl.getD i 0 = sl.getD j 0 → i = j) : ∀ i, i ≤ 6 → (∀ g, (∀ o, o < i → g ≠ sl.getD o 0) → φo φ sl h i g = φ g) ∧ ∀ o, o < i → φo φ sl h i (sl.getD o 0) = pt_learn (φ (sl.getD o 0)) h
  | 0, _ => ⟨fun _ _ => rfl, fun o ho => absurd ho (Nat.not_lt_zero _)⟩
  | i + 1, hi => by
    obtain ⟨h1, h2⟩ := φo_at (φ := φ) (h := h) hinj i (by omega)
    refine ⟨fun g hg => ?_, fun o ho => ?_⟩
    · rw [φo, pu_ne (hg i (Nat.lt_succ_self _))]
      exact h1 g (fun o ho => hg o (by omega))
    · rw [φo]
      by_cases c : o = i
      · rw [c, pu_at]
      · rw [pu_ne (fun hc => c (hinj o i (by omega) (by omega) hc))]
        exact h2 o (by omega)
theorem pd_en_len (t : qf) (f : Nat) (D : List (Nat × Nat × Nat)) : ∀ n, (pd_en t f n D).length ≤ D.length + n
  | 0 => Nat.le_refl _
  | n + 1 => by
    have h1 := pd_en_len t f D n
    have h2 := pe_en_len' (pn_rk t n) (f, n) (decide ((t.2.2.2.2.getD n (0, 0, 0, 0)).2.2.2 = 255)) (pd_en t f n D)
    rw [pd_en]
    omega
section
variable {μ μ' : pw_Mem} {s : Option Nat} {b : Nat} {φ φ' : Nat → qf} {sl : List Nat} {cnt : Nat} {act : Bool} {last time : Nat} {cl : Bool} {D : List (Nat × Nat × Nat)} {ou fs : List Nat} {made taken af ar : Nat} {src : Nat → Nat → Nat × Nat} {P : Nat → Prop}
theorem A_enter (hA : kA μ b time cl) (hE : kE μ b D) (hF : kF μ b φ) (ok : dOK φ fs D) (hn : dN φ D) (hs : dS D) (hb : ∀ f ∈ fs, isB b f) (hv : ∀ f, isB b f → qV (φ f)) {f : Nat} (hf : isB b f) (hffs : f ∈ fs) (hl : D.length + (φ f).2.2.2.2.length ≤ 66) :
    pT (pw_σ b) s (fun μ' => kE μ' b (pd_en (φ f) f (φ f).2.2.2.2.length D) ∧ pw_fr μ μ' (pw_inD (b + 105)) ∧ dOK φ fs (pd_en (φ f) f (φ f).2.2.2.2.length D) ∧ dN φ (pd_en (φ f) f (φ f).2.2.2.2.length D) ∧ dS (pd_en (φ f) f (φ f).2.2.2.2.length D)) (f_A_enter (s, pw_lay (pw_σ b) μ) (some b) (some f)) := by
  have h11 := (hF f hf).2.2.2.2.2.2.2.1
  unfold f_A_enter
  refine pw_loopG (G := pT (pw_σ b) s _) (φ f).2.2.2.2.length (fun n a => ∃ j μ1, a = (nI j, (s, pw_lay (pw_σ b) μ1)) ∧ n + j = (φ f).2.2.2.2.length ∧ kE μ1 b (pd_en (φ f) f j D) ∧ pw_fr μ μ1 (pw_inD (b + 105)) ∧ dOK φ fs (pd_en (φ f) f j D) ∧ dN φ (pd_en (φ f) f j D) ∧ dS (pd_en (φ f) f j D))
    (fun a => ∃ j μ1, a = (j, (s, pw_lay (pw_σ b) μ1)) ∧ kE μ1 b (pd_en (φ f) f (φ f).2.2.2.2.length D) ∧ pw_fr μ μ1 (pw_inD (b + 105)) ∧ dOK φ fs (pd_en (φ f) f (φ f).2.2.2.2.length D) ∧ dN φ (pd_en (φ f) f (φ f).2.2.2.2.length D) ∧ dS (pd_en (φ f) f (φ f).2.2.2.2.length D)) ⟨0, μ, rfl, rfl, hE, pw_fr.rfl, ok, hn, hs⟩ ?_ ?_
  · rintro n a ⟨j, μ1, rfl, hnj, k1, g1, ok1, n1, s1⟩
    have hF1 := hF.fr g1 (fun a ha hc => by unfold pw_inD at hc; omega)
    have hA1 := hA.fr g1 (by unfold pw_inD; omega)
    have q := hF1 f hf
    dsimp only
    rw [qF_ob q, Option.bind_some, pf_count q.1, Option.bind_some, q.2.2.2.2.2.2.1]
    by_cases c : j < (φ f).2.2.2.2.length
    · have hr : (φ f).2.2.2.2[j]? = some ((φ f).2.2.2.2.getD j (0, 0, 0, 0)) := pk_getD c
      have hlen := pd_en_len (φ f) f D j
      obtain ⟨μ2, e2, k2, g2⟩ := kE_enter (s := s) k1 hF1 ok1 hb hv hf hr (Or.inl (by omega))
      left
      refine ⟨n - 1, (nI (j + 1), (s, pw_lay (pw_σ b) μ2)), by omega, ?_, j + 1, μ2, rfl, by omega, k2, g1.trans g2, ok1.en s1 hffs hr _, n1.en s1 (fun h0 r0 hr0 => ?_), s1.en⟩
      · rw [if_neg (nI_ge c (by omega)), Option.bind_some, qF_record q c, Option.bind_some, if_neg (fun hc => nomatch hc), kA_g1 hA1, Option.bind_some, kD_ob, Option.bind_some, e2, Option.bind_some, Option.bind_some, nI_1]
      · rw [hr] at hr0
        cases hr0
        simpa using h0
    · right
      have : j = (φ f).2.2.2.2.length := by omega
      subst this
      exact ⟨_, if_pos (nI_le (by omega) (by omega)), nI _, μ1, rfl, k1, g1, ok1, n1, s1⟩
  · rintro a ⟨j, μ1, rfl, k1, g1, ok1, n1, s1⟩
    exact ⟨μ1, rfl, k1, g1, ok1, n1, s1⟩
/-- what opening leaves -/
theorem A_open (h : KR μ b φ sl cnt act last time cl D ou made taken af ar src) (ap : pk_ap sl ou) (hv : ∀ f, isB b f → qV (φ f) ∧ (φ f).2.1.length ≤ 100) (hh : Bool) :
    pTr (pw_σ b) s (fun a μ' => a = nI (pd_op (pu_sync φ sl cnt act) sl hh cnt).length ∧ KR μ' b (φo (pu_sync φ sl cnt act) sl hh cnt) sl cnt false last time false (pd_op (pu_sync φ sl cnt act) sl hh cnt) ou made 0 af ar src ∧ pw_fr μ μ' (pw_inC b) ∧ dOK (φo (pu_sync φ sl cnt act) sl hh cnt) (sl.take cnt) (pd_op (pu_sync φ sl cnt act) sl hh cnt) ∧ dN (φo (pu_sync φ sl cnt act) sl hh cnt) (pd_op (pu_sync φ sl cnt act) sl hh cnt) ∧ dS (pd_op (pu_sync φ sl cnt act) sl hh cnt)) (f_A_open (s, pw_lay (pw_σ b) μ) (some b) (if hh then 1 else 0)) := by
  obtain ⟨b1, b2, b3, b4⟩ := h.bo
  obtain ⟨hA, hS, hE, hF, hG, hX⟩ := h
  have h6 := hS.2.2.2.2.2.1
  obtain ⟨μ1, e1, kG1, g1⟩ := kG_drop (s := s) hG
  have hA1 := hA.fr g1 (by omega)
  have hE1 : kE μ1 b D := hE.fr g1 (by omega) (by omega)
  obtain ⟨μ2, e2, kE2, g2⟩ := pd_clear (s := s) hE1
  have nD : ∀ a, a ≠ b + 105 → a ≠ b + 106 → ¬ pw_inD (b + 105) a := fun a h1 h2 hc => by unfold pw_inD at hc; omega
  have hA2 := hA1.fr g2 (nD _ (by omega) (by omega))
  have hS2 := (hS.fr g1 (by omega) (by omega)).fr g2 (nD _ (by omega) (by omega)) (nD _ (by omega) (by omega))
  have hF2 := (hF.fr g1 (fun a ha hc => by omega)).fr g2 (fun a ha => nD _ (by omega) (by omega))
  have hG2 := kG1.fr g2 (nD _ (by omega) (by omega)) (nD _ (by omega) (by omega))
  obtain ⟨μ3, e3, kS3, kF3, g3⟩ := kS_seal (s := s) hS2 hF2
  have nS : ∀ a, (a < b + 1 ∨ (b + 105 ≤ a ∧ a < b + 109) ∨ b + 211 ≤ a) → ¬ (a = b + 1 ∨ ∃ f, f ∈ sl ∧ a = f) := fun a ha hc => by
    rcases hc with hc | ⟨f, hf, rfl⟩
    · omega
    · exact (b1 a hf).ne (by omega) ⟨Nat.le_refl _, by omega⟩
  have hA3 := hA2.fr g3 (nS _ (by omega))
  have kE3 : kE μ3 b [] := pw_D.fr kE2 g3 (nS _ (by omega)) (nS _ (by omega))
  have hG3 := hG2.fr g3 (nS _ (by omega)) (nS _ (by omega))
  have gg3 : pw_fr μ μ3 (pw_inC b) := ((g1.mono (fun a ha => by unfold pw_inC; omega)).trans (g2.mono (fun a ha => by unfold pw_inD at ha; unfold pw_inC; omega))).trans (g3.mono (fun a ha => by
    unfold pw_inC
    rcases ha with ha | ⟨f, hf, rfl⟩
    · omega
    · have := (b1 a hf).at (a := a) ⟨Nat.le_refl _, by omega⟩
      omega))
  have hv0 : ∀ f, isB b f → qV (pu_sync φ sl cnt act f) ∧ (pu_sync φ sl cnt act f).2.1.length ≤ 100 := by
    intro f hf
    by_cases c : f = sl.getD (cnt - 1) 0
    · unfold pu_sync
      split
      · rw [c, pu_at]
        rw [c] at hf
        obtain ⟨⟨w1, w2, w3, w4, w5⟩, w6⟩ := hv _ hf
        exact ⟨⟨w1, w2, w3, Nat.le_refl _, w5⟩, w6⟩
      · exact hv f hf
    · rw [pu_sync_ne c]
      exact hv f hf
  generalize pu_sync φ sl cnt act = φ0 at kF3 hv0 ⊢
  unfold f_A_open
  rw [kA_g2 hA, Option.bind_some, kG_ob, Option.bind_some, e1, Option.bind_some, kA_g1 hA1, Option.bind_some, kD_ob, Option.bind_some, e2, Option.bind_some, kA_g0 hA2, Option.bind_some, kS_ob, Option.bind_some, e3, Option.bind_some]
  have hLV := fun i (hi : i < 6) => pt_learn_V (hv0 _ (b2 i hi)).1 (hv0 _ (b2 i hi)).2 hh
  refine pw_loopG (G := pTr (pw_σ b) s _) cnt (fun n a => ∃ i μ4, a = (nI i, (s, pw_lay (pw_σ b) μ4)) ∧ n + i = cnt ∧ kA μ4 b time cl ∧ kS μ4 b sl cnt false last ∧ kE μ4 b (pd_op φ0 sl hh i) ∧ kF μ4 b (φo φ0 sl hh i) ∧ kG μ4 b ou made 0 af ar ∧ pw_fr μ μ4 (pw_inC b) ∧ dOK (φo φ0 sl hh i) (sl.take i) (pd_op φ0 sl hh i) ∧ dN (φo φ0 sl hh i) (pd_op φ0 sl hh i) ∧ dS (pd_op φ0 sl hh i) ∧ (pd_op φ0 sl hh i).length ≤ 11 * i)
    (fun a => ∃ i μ4, a = (i, (s, pw_lay (pw_σ b) μ4)) ∧ kA μ4 b time cl ∧ kS μ4 b sl cnt false last ∧ kE μ4 b (pd_op φ0 sl hh cnt) ∧ kF μ4 b (φo φ0 sl hh cnt) ∧ kG μ4 b ou made 0 af ar ∧ pw_fr μ μ4 (pw_inC b) ∧ dOK (φo φ0 sl hh cnt) (sl.take cnt) (pd_op φ0 sl hh cnt) ∧ dN (φo φ0 sl hh cnt) (pd_op φ0 sl hh cnt) ∧ dS (pd_op φ0 sl hh cnt)) ?_ ?_ ?_
  · exact ⟨0, μ3, rfl, rfl, hA3, kS3, kE3, kF3, hG3, gg3, fun e he => (by cases he), fun e he => (by cases he), List.Pairwise.nil, Nat.zero_le _⟩
  · rintro n a ⟨i, μ4, rfl, hni, kA4, kS4, kE4, kF4, kG4, g4, ok4, n4, s4, l4⟩
    dsimp only
    rw [kA_g0 kA4, Option.bind_some, kS_ob, Option.bind_some, kS_count kS4, Option.bind_some]
    by_cases c : i < cnt
    · have hi6 : i < 6 := by omega
      obtain ⟨fx1, fx2⟩ := φo_at (φ := φ0) (h := hh) ap.2.2.1 i (by omega)
      obtain ⟨fy1, fy2⟩ := φo_at (φ := φ0) (h := hh) ap.2.2.1 (i + 1) (by omega)
      have hB := b2 i hi6
      have efi : φo φ0 sl hh i (sl.getD i 0) = φ0 (sl.getD i 0) := fx1 _ (fun o ho hc => by have := ap.2.2.1 i o hi6 (by omega) hc; omega)
      have q := kF4 _ hB
      rw [efi] at q
      obtain ⟨v1, v2⟩ := hv0 _ hB
      obtain ⟨lv1, lv2, lv3, lv4⟩ := hLV i hi6
      obtain ⟨μ5, e5, q5, g5⟩ := qF_learn (s := s) q v1.1 v1.2.1 hh
      have kF5 : kF μ5 b (φo φ0 sl hh (i + 1)) := kF4.upd hB g5 q5
      have kA5 := kA4.fr g5 (hB.ne (by omega))
      have kS5 := kS4.fr g5 (hB.ne (by omega)) (hB.ne (by omega))
      have kE5 := kE4.fr g5 (hB.ne (by omega)) (hB.ne (by omega))
      have kG5 := kG4.fr g5 (hB.ne (by omega)) (hB.ne (by omega))
      have efi1 : φo φ0 sl hh (i + 1) (sl.getD i 0) = pt_learn (φ0 (sl.getD i 0)) hh := fy2 i (Nat.lt_succ_self _)
      have hne : ∀ f, f ∈ sl.take i → f ≠ sl.getD i 0 := fun f hf hc => by
        obtain ⟨j, hj, e⟩ := List.mem_iff_getElem.mp hf
        rw [List.length_take] at hj
        have h2 : sl.getD j 0 = f := by
          unfold List.getD
          rw [List.getElem?_eq_getElem (by omega)]
          rw [List.getElem_take] at e
          exact e
        have := ap.2.2.1 j i (by omega) hi6 (h2.trans hc)
        omega
      have hmono : ∀ f, f ∈ sl.take i → f ∈ sl.take (i + 1) := fun f hf => by
        rw [List.take_add_one]
        exact List.mem_append_left _ hf
      have hmem : sl.getD i 0 ∈ sl.take (i + 1) := by
        rw [List.take_add_one, (kS_getD kS4 hi6).1]
        exact List.mem_append_right _ (List.mem_singleton.mpr rfl)
      have ok5 : dOK (φo φ0 sl hh (i + 1)) (sl.take (i + 1)) (pd_op φ0 sl hh i) := fun e he => by
        obtain ⟨c1, r, c2, c3⟩ := ok4 e he
        refine ⟨hmono _ c1, r, ?_, c3⟩
        rw [φo, pu_ne (hne _ c1)]
        exact c2
      have n5 : dN (φo φ0 sl hh (i + 1)) (pd_op φ0 sl hh i) := fun e he r hr => by
        obtain ⟨c1, -⟩ := ok4 e he
        rw [φo, pu_ne (hne _ c1)] at hr
        exact n4 e he r hr
      have hV5 : ∀ f, isB b f → qV (φo φ0 sl hh (i + 1) f) := fun f hf => by
        by_cases hx : ∃ o, o < i + 1 ∧ f = sl.getD o 0
        · obtain ⟨o, ho, rfl⟩ := hx
          rw [fy2 o ho]
          exact (hLV o (by omega)).1
        · rw [fy1 f (fun o ho hc => hx ⟨o, ho, hc⟩)]
          exact (hv0 f hf).1
      have hfs : ∀ f ∈ sl.take (i + 1), isB b f := fun f hf => b1 f (List.mem_of_mem_take hf)
      obtain ⟨μ6, e6, kE6, g6, ok6, n6, s6⟩ := A_enter (s := s) kA5 kE5 kF5 ok5 n5 s4 hfs hV5 hB hmem (by rw [efi1]; omega)
      rw [efi1] at kE6 ok6 n6 s6
      have nD6 : ∀ a, a ≠ b + 105 → a ≠ b + 106 → ¬ pw_inD (b + 105) a := fun a h1 h2 hc => by unfold pw_inD at hc; omega
      left
      refine ⟨n - 1, (nI (i + 1), (s, pw_lay (pw_σ b) μ6)), by omega, ?_, i + 1, μ6, rfl, by omega, kA5.fr g6 (nD6 _ (by omega) (by omega)), kS5.fr g6 (nD6 _ (by omega) (by omega)) (nD6 _ (by omega) (by omega)), kE6, kF5.fr g6 (fun a ha => nD6 _ (by omega) (by omega)), kG5.fr g6 (nD6 _ (by omega) (by omega)) (nD6 _ (by omega) (by omega)), (g4.trans (g5.mono (fun a ha => ?_))).trans (g6.mono (fun a ha => ?_)), ok6, n6, s6, ?_⟩
      · rw [if_neg (nI_ge c (by omega)), Option.bind_some, kS_ob, Option.bind_some, kS_at' kS4 c, Option.bind_some, if_neg (fun hc => nomatch hc), qF_ob q, Option.bind_some, e5, Option.bind_some, kA_ob, Option.bind_some, e6, Option.bind_some, Option.bind_some, nI_1]
      · have := hB.at ha
        unfold pw_inC
        omega
      · unfold pw_inD at ha
        unfold pw_inC
        omega
      · have := pd_en_len (pt_learn (φ0 (sl.getD i 0)) hh) (sl.getD i 0) (pd_op φ0 sl hh i) (pt_learn (φ0 (sl.getD i 0)) hh).2.2.2.2.length
        rw [pd_op]
        omega
    · right
      have hi : i = cnt := by omega
      subst hi
      exact ⟨_, if_pos (nI_le (by omega) (by omega)), nI _, μ4, rfl, kA4, kS4, kE4, kF4, kG4, g4, ok4, n4, s4⟩
  · rintro a ⟨i, μ4, rfl, kA4, kS4, kE4, kF4, kG4, g4, ok4, n4, s4⟩
    obtain ⟨μ5, e5, kA5, g5⟩ := kA_p4 (s := s) kA4 false
    have kE5 := kE4.fr g5 (by omega) (by omega)
    have hcnt := pd_count (s := s) kE5
    rw [List.length_map] at hcnt
    rw [if_neg (by decide)] at e5
    dsimp only
    rw [e5, Option.bind_some, kA_g1 kA5, Option.bind_some, kD_ob, Option.bind_some, hcnt, Option.bind_some]
    exact ⟨_, μ5, rfl, rfl, ⟨kA5, kS4.fr g5 (by omega) (by omega), kE5, kF4.fr g5 (fun a ha hc => by omega), kG4.fr g5 (by omega) (by omega), fun h => absurd h (Nat.lt_irrefl 0)⟩, g4.trans (g5.mono (fun a ha => by unfold pw_inC; omega)), ok4, n4, s4⟩
end
