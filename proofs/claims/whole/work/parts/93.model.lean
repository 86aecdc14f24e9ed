/-! ===== the reference puts and deletes ===== -/
/-- the reference's cells -/
def mCM (b a : Nat) : Prop := b + 211 ≤ a ∧ a ≤ b + 228
section
variable {I I' : mN} {L L' : mL} {ρ : mQ} {s : Option Nat} {b : Nat} {φ φ' : Nat → qf} {sl : List Nat} {cnt : Nat} {act : Bool} {last time : Nat} {cl : Bool} {D : List (Nat × Nat × Nat)} {ou : List Nat} {made taken af ar : Nat} {src : Nat → Nat → Nat × Nat}
/-- the pure side of the reference's appending -/
def pm_pre (φ : Nat → qf) (sl : List Nat) (cnt : Nat) (act : Bool) (last time : Nat) (D : List (Nat × Nat × Nat)) (ou : List Nat) (made taken : Nat) (src : Nat → Nat → Nat × Nat) : Prop :=
  pk_ap sl ou ∧ cnt ≤ 6 ∧ (act = true → 0 < cnt ∧ (φ (sl.getD (cnt - 1) 0)).1 = last) ∧ time < 65536 ∧ last < 2 ^ 19 ∧ (∀ i, i < 6 → mZ (φ (sl.getD i 0)) ∧ mZ (φ (ou.getD i 0)) ∧ qB (φ (sl.getD i 0)).2.1) ∧ (act = true → ∀ z, 9 ≤ z → (φ (sl.getD (cnt - 1) 0)).2.1.length + z ≤ 100 → (φ (sl.getD (cnt - 1) 0)).2.2.2.2.length < 11) ∧ dS D ∧ (∀ z, 9 ≤ z → pk_fit φ sl cnt act z ∨ cnt < 6 → D.length < 66) ∧ (∀ e ∈ D, ∃ i, i < cnt ∧ e.2.1 = sl.getD i 0) ∧ (0 < taken → made ≤ 6 ∧ ∀ o j, o < made → j < (φ (ou.getD o 0)).2.2.2.2.length → ∃ i, i < cnt ∧ (src o j).1 = sl.getD i 0)
theorem pk_tgt_num {z k x v : Nat} {value : Int64} {g : Nat} (h : pk_fit φ sl cnt act z ∨ g ≠ sl.getD cnt 0) : (pu (pk_tgt φ sl cnt act last z).2.1 (pk_tgt φ sl cnt act last z).1 (pt_app ((pk_tgt φ sl cnt act last z).2.1 (pk_tgt φ sl cnt act last z).1) time k x v value) g).1 = (φ g).1 := by
  by_cases hf : pk_fit φ sl cnt act z
  · rw [pk_tgt_fit hf]
    dsimp only
    by_cases c : g = sl.getD (cnt - 1) 0
    · rw [c, pu_at]
      rfl
    · rw [pu_ne c]
  · have hg := h.elim (fun h => absurd h hf) id
    rw [pk_tgt_new hf]
    dsimp only
    rw [pu_ne hg]
    unfold pu_new
    rw [pu_ne hg]
    unfold pu_sync
    split
    · by_cases c : g = sl.getD (cnt - 1) 0
      · rw [c, pu_at]
        rfl
      · rw [pu_ne c]
    · rfl
theorem M_app_all (h : MR I L b φ sl cnt act last time cl D ou made taken af ar src) (hP : mP b ρ) (hp : pm_pre φ sl cnt act last time D ou made taken src) {k v : Nat} (h1 : 1 ≤ k) (h4 : k ≤ 4) (hv : v ≤ 8 ∨ v = 255) (key value : Int64) (hcase : pk_fit φ sl cnt act (pn_len k v) ∨ cnt < 6) {tomb : Bool}
    (F : aw_W → Option aw_W) (hF : ∀ I' L', I' (b + 211) 1 = nI (pk_tgt φ sl cnt act last (pn_len k v)).2.2.1 → F (s, pw_lay (pw_σ b) (I', L', ρ)) = if tomb then f_M_unset (s, pw_lay (pw_σ b) (I', L', ρ)) (some (b + 211)) (lN (pn_cut key k)) (nI k) else f_M_set (s, pw_lay (pw_σ b) (I', L', ρ)) (some (b + 211)) (lN (pn_cut key k)) (nI k) (I' (b + 211) 22) (I' (b + 219) ((pk_tgt φ sl cnt act last (pn_len k v)).2.2.1 - 1) - 1)) :
    ∃ I' L', (f_M_append (s, pw_lay (pw_σ b) (I, L, ρ)) (some (b + 211)) key (nI k) value (nI v)).bind F = some (s, pw_lay (pw_σ b) (I', L', ρ)) ∧ I' (b + 211) 0 = I (b + 211) 0 ∧
      MR I' L' b (pu (pk_tgt φ sl cnt act last (pn_len k v)).2.1 (pk_tgt φ sl cnt act last (pn_len k v)).1 (pt_app ((pk_tgt φ sl cnt act last (pn_len k v)).2.1 (pk_tgt φ sl cnt act last (pn_len k v)).1) time k (pn_cut key k) v value)) sl (pk_tgt φ sl cnt act last (pn_len k v)).2.2.1 true (pk_tgt φ sl cnt act last (pn_len k v)).2.2.2 ((time + 1) % 65536) cl (pe_en (pn_rank k (pn_cut key k)) ((pk_tgt φ sl cnt act last (pn_len k v)).1, ((pk_tgt φ sl cnt act last (pn_len k v)).2.1 (pk_tgt φ sl cnt act last (pn_len k v)).1).2.2.2.2.length) tomb D) ou made taken af ar src ∧ mfr I I' (fun a _ => mCM b a) ∧ ∀ a, a ≠ b + 225 → L' a = L a := by
  obtain ⟨p1, p2, p3, p4, p5, p6, p7, p8, p9, p10, p11⟩ := hp
  obtain ⟨hFl, hcl, hmF, ⟨n, E, hd, hr⟩, hmg1, hmg2⟩ := h
  have hlen := pn_len_ge k v
  have hlen2 := pn_len_le h4 hv
  obtain ⟨I1, e1, fl1, F1, g1⟩ := M_append (s := s) (L := L) hP hFl hmF p1.2.2.1 p2 (fun h => (p3 h).1) p4 (fun i hi => ⟨(p6 i (by omega)).1, (p6 i (by omega)).2.2⟩) h1 h4 hv key value (fun ha hl => p7 ha _ (by omega) hl) hcase
  -- the target
  have hT : ∃ r, r < 6 ∧ (pk_tgt φ sl cnt act last (pn_len k v)).2.2.1 = r + 1 ∧ (pk_tgt φ sl cnt act last (pn_len k v)).1 = sl.getD r 0 ∧ ((pk_tgt φ sl cnt act last (pn_len k v)).2.1 (sl.getD r 0)).1 = (pk_tgt φ sl cnt act last (pn_len k v)).2.2.2 ∧ ((pk_tgt φ sl cnt act last (pn_len k v)).2.1 (sl.getD r 0)).2.2.2.2.length < 11 ∧ (pk_tgt φ sl cnt act last (pn_len k v)).2.2.2 < 2 ^ 20 := by
    by_cases hf : pk_fit φ sl cnt act (pn_len k v)
    · obtain ⟨q1, q2⟩ := p3 hf.1
      rw [pk_tgt_fit hf]
      exact ⟨cnt - 1, by omega, by dsimp only; omega, rfl, q2, p7 hf.1 _ (by omega) hf.2, by dsimp only; omega⟩
    · have hc6 : cnt < 6 := hcase.elim (fun h => absurd h hf) id
      rw [pk_tgt_new hf]
      refine ⟨cnt, hc6, rfl, rfl, ?_, ?_, by dsimp only; omega⟩
      · show (pu_new φ sl cnt act last (sl.getD cnt 0)).1 = last + 1
        unfold pu_new
        rw [pu_at]
      · show (pu_new φ sl cnt act last (sl.getD cnt 0)).2.2.2.2.length < 11
        unfold pu_new
        rw [pu_at]
        exact (by decide : 0 < 11)
  have hnum : ∀ g, (∃ i, i < cnt ∧ g = sl.getD i 0) → (pu (pk_tgt φ sl cnt act last (pn_len k v)).2.1 (pk_tgt φ sl cnt act last (pn_len k v)).1 (pt_app ((pk_tgt φ sl cnt act last (pn_len k v)).2.1 (pk_tgt φ sl cnt act last (pn_len k v)).1) time k (pn_cut key k) v value) g).1 = (φ g).1 := fun g hg => by
    obtain ⟨i, hi, rfl⟩ := hg
    refine pk_tgt_num ?_
    by_cases hf : pk_fit φ sl cnt act (pn_len k v)
    · exact Or.inl hf
    · have hc6 : cnt < 6 := hcase.elim (fun h => absurd h hf) id
      exact Or.inr (fun hc => by have := p1.2.2.1 i cnt (by omega) hc6 hc; omega)
  have hou : ∀ o, o < 6 → pu (pk_tgt φ sl cnt act last (pn_len k v)).2.1 (pk_tgt φ sl cnt act last (pn_len k v)).1 (pt_app ((pk_tgt φ sl cnt act last (pn_len k v)).2.1 (pk_tgt φ sl cnt act last (pn_len k v)).1) time k (pn_cut key k) v value) (ou.getD o 0) = φ (ou.getD o 0) := fun o ho => by
    by_cases hf : pk_fit φ sl cnt act (pn_len k v)
    · have hc := (p3 hf.1).1
      rw [pk_tgt_fit hf]
      exact pu_ne (fun hc => p1.2.2.2.2 _ o (by omega) ho hc.symm)
    · have hc6 : cnt < 6 := hcase.elim (fun h => absurd h hf) id
      rw [pk_tgt_new hf]
      have n2 : ou.getD o 0 ≠ sl.getD cnt 0 := fun hc => p1.2.2.2.2 _ o hc6 ho hc.symm
      dsimp only
      rw [pu_ne n2]
      unfold pu_new
      rw [pu_ne n2]
      exact pu_sync_ne (fun hc => p1.2.2.2.2 _ o (by omega) ho hc.symm)
  obtain ⟨r, hr6, t1, t2, t3, t4, t5⟩ := hT
  have hf0 : ∀ c, c ≠ 1 → c ≠ 20 → c ≠ 22 → c ≠ 23 → I1 (b + 211) c = I (b + 211) c := fun c c1 c2 c3 c4 => g1 _ _ (fun hc => by
    rcases hc with hc | ⟨i, -, hc⟩
    · omega
    · unfold mC at hc; omega)
  have hd1 : mDir I1 L b n E := hd.fr g1 (fun a c ha hc => by
    rcases hc with hc | ⟨i, -, hc⟩
    · omega
    · unfold mC at hc; omega)
  have hcount := (F1 r (by omega)).2.2.2.2.2.2.2.1
  rw [t2] at hcount
  generalize hφ2 : pu (pk_tgt φ sl cnt act last (pn_len k v)).2.1 (pk_tgt φ sl cnt act last (pn_len k v)).1 (pt_app ((pk_tgt φ sl cnt act last (pn_len k v)).2.1 (pk_tgt φ sl cnt act last (pn_len k v)).1) time k (pn_cut key k) v value) = φ2 at F1 hnum hou hcount ⊢
  have hr1 : dR (fun f => (φ2 f).1) n E D := hr.renm (fun e he => hnum _ (p10 e he))
  have hφr : (φ2 (sl.getD r 0)).1 = (pk_tgt φ sl cnt act last (pn_len k v)).2.2.2 ∧ (φ2 (sl.getD r 0)).2.2.2.2.length = ((pk_tgt φ sl cnt act last (pn_len k v)).2.1 (sl.getD r 0)).2.2.2.2.length + 1 := by
    rw [← hφ2, t2, pu_at]
    refine ⟨t3, ?_⟩
    show (_ ++ [_]).length = _
    rw [List.length_append, List.length_singleton]
  obtain ⟨s1, s2⟩ := M_entered (s := s) hP hd1 hr1 p8 (p9 (pn_len k v) (by omega) hcase) (k := k) (x := pn_cut key k) (f := sl.getD r 0) (i := ((pk_tgt φ sl cnt act last (pn_len k v)).2.1 (sl.getD r 0)).2.2.2.2.length) h1 h4 (pn_cut_lt key k) (by rw [hφr.1]; exact t5) (by omega)
  -- what is left as it was by an entering
  have done : ∀ I2 L2, (∃ n' E', mDir I2 L2 b n' E' ∧ dR (fun f => (φ2 f).1) n' E' (pe_en (pn_rank k (pn_cut key k)) (sl.getD r 0, ((pk_tgt φ sl cnt act last (pn_len k v)).2.1 (sl.getD r 0)).2.2.2.2.length) tomb D)) → mfr I1 I2 (mCd b) → (∀ a, a ≠ b + 225 → L2 a = L a) → I2 (b + 211) 0 = I (b + 211) 0 ∧ MR I2 L2 b φ2 sl (pk_tgt φ sl cnt act last (pn_len k v)).2.2.1 true (pk_tgt φ sl cnt act last (pn_len k v)).2.2.2 ((time + 1) % 65536) cl (pe_en (pn_rank k (pn_cut key k)) (sl.getD r 0, ((pk_tgt φ sl cnt act last (pn_len k v)).2.1 (sl.getD r 0)).2.2.2.2.length) tomb D) ou made taken af ar src ∧ mfr I I2 (fun a _ => mCM b a) ∧ ∀ a, a ≠ b + 225 → L2 a = L a := by
    intro I2 L2 hdir g2 hL
    have fl : ∀ c, c ≠ 15 → I2 (b + 211) c = I1 (b + 211) c := fun c hc => g2 _ _ (fun h => by unfold mCd at h; omega)
    obtain ⟨x1, x2, x3, x4⟩ := fl1
    have nQ : ∀ i a c, mC b i a c → ¬ mCd b a c := fun i a c h hc => by unfold mC at h; unfold mCd at hc; omega
    refine ⟨by rw [fl 0 (by decide), hf0 0 (by decide) (by decide) (by decide) (by decide)], ⟨⟨by rw [fl 1 (by decide)]; exact x1, by rw [fl 20 (by decide)]; exact x2, by rw [fl 22 (by decide)]; exact x3, by rw [fl 23 (by decide)]; exact x4⟩, by rw [fl 21 (by decide), hf0 21 (by decide) (by decide) (by decide) (by decide)]; exact hcl, fun i hi => ?_, hdir, by rw [fl 24 (by decide), hf0 24 (by decide) (by decide) (by decide) (by decide)]; exact hmg1, fun ht => ?_⟩, (g1.mono (fun a c hc => ?_)).trans (g2.mono (fun a c hc => ?_)), hL⟩
    · obtain ⟨y1, y2⟩ := F1 i hi
      have hzi : mZ (φ2 (sl.getD i 0)) := by
        by_cases ci : i = r
        · rw [ci]
          have hB := (F1 r (by omega)).2
          refine ⟨?_, ?_, by rw [hφr.2]; omega⟩
          · rw [← hφ2, t2, pu_at]
            show (_ ++ pn_rec time k _ v value).length ≤ 100
            rw [List.length_append, pn_rec_len]
            by_cases hf : pk_fit φ sl cnt act (pn_len k v)
            · rw [pk_tgt_fit hf] at t2 ⊢
              dsimp only at t2 ⊢
              rw [← t2]
              exact hf.2
            · rw [pk_tgt_new hf] at t2 ⊢
              dsimp only at t2 ⊢
              rw [← t2]
              unfold pu_new
              rw [pu_at]
              show 0 + _ ≤ 100
              omega
          · rw [← hφ2, t2, pu_at]
            show ((pk_tgt φ sl cnt act last (pn_len k v)).2.1 (sl.getD r 0)).2.2.2.1.length ≤ 104
            by_cases hf : pk_fit φ sl cnt act (pn_len k v)
            · rw [pk_tgt_fit hf]
              exact (p6 r hr6).1.2.1
            · rw [pk_tgt_new hf] at t2 ⊢
              dsimp only at t2 ⊢
              rw [← t2]
              unfold pu_new
              rw [pu_at]
              exact Nat.zero_le _
        · rw [← hφ2, t2, pu_ne (fun hc => ci (p1.2.2.1 i r (by omega) hr6 hc))]
          by_cases hf : pk_fit φ sl cnt act (pn_len k v)
          · rw [pk_tgt_fit hf]
            exact (p6 i (by omega)).1
          · rw [pk_tgt_new hf] at t2 ⊢
            dsimp only at t2 ⊢
            unfold pu_new
            rw [t2, pu_ne (fun hc => ci (p1.2.2.1 i r (by omega) hr6 hc))]
            unfold pu_sync
            split
            · by_cases c9 : sl.getD i 0 = sl.getD (cnt - 1) 0
              · rw [c9, pu_at]
                exact (p6 (cnt - 1) (by omega)).1
              · rw [pu_ne c9]
                exact (p6 i (by omega)).1
            · exact (p6 i (by omega)).1
      refine ⟨by rw [g2 _ _ (fun h => by unfold mCd at h; omega)]; exact y1, y2.fr hzi g2 (fun a c h => nQ i a c h)⟩
    · obtain ⟨z1, z2, z3, z4, z5⟩ := hmg2 ht
      obtain ⟨m1, m2⟩ := p11 ht
      refine ⟨by rw [fl 25 (by decide), hf0 25 (by decide) (by decide) (by decide) (by decide)]; exact z1, by rw [fl 26 (by decide), hf0 26 (by decide) (by decide) (by decide) (by decide)]; exact z2, by rw [fl 27 (by decide), hf0 27 (by decide) (by decide) (by decide) (by decide)]; exact z3, by rw [fl 28 (by decide), hf0 28 (by decide) (by decide) (by decide) (by decide)]; exact z4, ?_⟩
      have w1 : mOut I1 b φ2 ou made src := z5.fr m1 (fun o ho => (p6 o ho).2.1) g1 (fun o a c ho h hc => by
        rcases hc with hc | ⟨i, hi, hc⟩
        · unfold mC at h; omega
        · exact mC_ne (show 6 + o ≠ i by omega) h hc) hou (fun o j ho hj => hnum _ (m2 o j ho hj))
      exact w1.fr m1 (fun o ho => by rw [hou o ho]; exact (p6 o ho).2.1) g2 (fun o a c ho h => nQ _ a c h) (fun _ _ => rfl) (fun _ _ _ _ => rfl)
    · rcases hc with hc | ⟨i, hi, hc⟩
      · unfold mCM; omega
      · unfold mC at hc; unfold mCM; omega
    · unfold mCd at hc; unfold mCM; omega
  have e22 : I1 (b + 211) 22 = nI (φ2 (sl.getD r 0)).1 := by rw [hφr.1]; exact fl1.2.2.1
  have ecnt : I1 (b + 219) ((pk_tgt φ sl cnt act last (pn_len k v)).2.2.1 - 1) - 1 = nI ((pk_tgt φ sl cnt act last (pn_len k v)).2.1 (sl.getD r 0)).2.2.2.2.length := by
    have := (F1 r (by omega)).2.2.2.2.2.2.2.1
    rw [t1, Nat.add_sub_cancel, this, hφr.2, nI_pred]
  rw [e1, Option.bind_some, hF _ _ fl1.1, t2]
  cases tomb with
  | true =>
    obtain ⟨I2, L2, e2, d2, g2, l2⟩ := s2
    rw [if_pos rfl, e2]
    exact ⟨I2, L2, rfl, done I2 L2 d2 g2 l2⟩
  | false =>
    obtain ⟨I2, L2, e2, d2, g2, l2⟩ := s1
    rw [if_neg (by decide), e22, ecnt, e2]
    exact ⟨I2, L2, rfl, done I2 L2 d2 g2 l2⟩
end
