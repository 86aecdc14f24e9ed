/-! ===== the reference publishes: the directory ===== -/
/-- numbers while a merge is published: an output's is marked -/
def nmx (φ : Nat → qf) (sl ou : List Nat) : Nat → Nat → Nat
  | 0 => fun f => (φ f).1
  | i + 1 => fun f => if f = ou.getD i 0 then 100000 + (φ (sl.getD i 0)).1 else nmx φ sl ou i f
theorem nmx_sl {φ : Nat → qf} {sl ou : List Nat} {f : Nat} : ∀ i, (∀ o, o < i → f ≠ ou.getD o 0) → nmx φ sl ou i f = (φ f).1
  | 0, _ => rfl
  | i + 1, h => by
    show (if f = ou.getD i 0 then 100000 + (φ (sl.getD i 0)).1 else nmx φ sl ou i f) = _
    rw [if_neg (h i (Nat.lt_succ_self i))]
    exact nmx_sl i (fun o ho => h o (by omega))
theorem nmx_ou {φ : Nat → qf} {sl ou : List Nat} (ap : pk_ap sl ou) : ∀ i, i ≤ 6 → ∀ o, o < i → nmx φ sl ou i (ou.getD o 0) = 100000 + (φ (sl.getD o 0)).1
  | i + 1, hi, o, ho => by
    show (if ou.getD o 0 = ou.getD i 0 then 100000 + (φ (sl.getD i 0)).1 else nmx φ sl ou i (ou.getD o 0)) = _
    by_cases c : o = i
    · rw [if_pos (by rw [c]), c]
    · rw [if_neg (fun hc => c (ap.2.2.2.1 o i (by omega) (by omega) hc))]
      exact nmx_ou ap i (by omega) o (by omega)
section
variable {I I' : mN} {L L' : mL} {ρ : mQ} {s : Option Nat} {b n : Nat} {E : qE} {sl : List Nat} {cnt : Nat} {D : List (Nat × Nat × Nat)} {ou : List Nat} {taken : Nat} {M : qM}
/-- the entry of a record, when outputs are marked -/
theorem dR.live2 {nm : Nat → Nat} (hr : dR nm n E D) (hs : dS D) {f a : Nat} {r : qr} (huq : ∀ e ∈ D, nm e.2.1 = nm f → e.2.1 = f) (ok : dOK M.1 (sl ++ ou) D) (hra : (M.1 f).2.2.2.2[a]? = some r) :
    (pe_find (pn_rank r.2.1 r.2.2.1) D = some (f, a) → ∃ j, j < n ∧ (E j).2.2.1 = nm f ∧ (E j).2.2.2 = a ∧ pn_rank (E j).2.1 (E j).1 = pn_rank r.2.1 r.2.2.1 ∧ ∀ j', j' < n → (E j').2.2.1 = nm f → (E j').2.2.2 = a → j' = j) ∧
    (¬ pe_find (pn_rank r.2.1 r.2.2.1) D = some (f, a) → ∀ j, j < n → ¬ ((E j).2.2.1 = nm f ∧ (E j).2.2.2 = a)) := by
  obtain ⟨r1, r2, r3, r4, r5⟩ := hr
  have key : ∀ j, j < n → (E j).2.2.1 = nm f → (E j).2.2.2 = a → pn_rank (E j).2.1 (E j).1 = pn_rank r.2.1 r.2.2.1 ∧ (pn_rank r.2.1 r.2.2.1, f, a) ∈ D := fun j hj hf ha => by
    obtain ⟨e, he, a1, a2, a3⟩ := r4 j hj
    obtain ⟨b1, r', b3, b4⟩ := ok e he
    have e1 : e.2.1 = f := huq e he (by rw [← a2, hf])
    have e2 : e.2.2 = a := by rw [← a3, ha]
    rw [e1, e2, hra] at b3
    cases b3
    refine ⟨a1.trans b4, ?_⟩
    have : e = (pn_rank r.2.1 r.2.2.1, f, a) := Prod.ext b4 (Prod.ext e1 e2)
    rw [← this]
    exact he
  refine ⟨fun hp => ?_, fun hp j hj hc => hp (pe_find_of hs (key j hj hc.1 hc.2).2)⟩
  obtain ⟨j, hj, a1, a2, a3⟩ := r3 _ (pe_find_in hp)
  refine ⟨j, hj, a2, a3, a1, fun j' hj' h1 h2 => r5 j' j hj' hj ?_⟩
  rw [a1]
  exact (key j' hj' h1 h2).1
/-- the pure side of publishing the directory -/
theorem pd_out_ok (hI : mI b sl ou D taken M) {X : List (Nat × Nat × Nat)} {o : Nat} (ho : o < M.2.1) (hm : ou.getD o 0 ∈ sl ++ ou) (ok : dOK M.1 (sl ++ ou) X) (hs : dS X) : ∀ j, j ≤ (M.1 (ou.getD o 0)).2.2.2.2.length → dOK M.1 (sl ++ ou) (pd_out (pn_rk (M.1 (ou.getD o 0))) (M.2.2.2.2 o) (ou.getD o 0) j X) ∧ dS (pd_out (pn_rk (M.1 (ou.getD o 0))) (M.2.2.2.2 o) (ou.getD o 0) j X)
  | 0, _ => ⟨ok, hs⟩
  | j + 1, hj => by
    obtain ⟨i1, i2⟩ := pd_out_ok hI ho hm ok hs j (by omega)
    rw [pd_out]
    unfold pd_rep
    split
    · have hr : (M.1 (ou.getD o 0)).2.2.2.2[j]? = some ((M.1 (ou.getD o 0)).2.2.2.2.getD j (0, 0, 0, 0)) := pk_getD (by omega)
      exact ⟨i1.en i2 hm hr false, i2.en⟩
    · exact ⟨i1, i2⟩
theorem Dx_ok (hI : mI b sl ou D taken M) (hm : ∀ o, o < 6 → ou.getD o 0 ∈ sl ++ ou) (h6 : M.2.1 ≤ 6) (ok : dOK M.1 (sl ++ ou) D) (hs : dS D) : ∀ o, o ≤ M.2.1 → dOK M.1 (sl ++ ou) (Dx M.1 ou M.2.2.2.2 D o) ∧ dS (Dx M.1 ou M.2.2.2.2 D o)
  | 0, _ => ⟨ok, hs⟩
  | o + 1, ho => by
    obtain ⟨i1, i2⟩ := Dx_ok hI hm h6 ok hs o (by omega)
    exact pd_out_ok hI (by omega) (hm o (by omega)) i1 i2 _ (Nat.le_refl _)
/-- the first loop: entries come to point to the copies, marked -/
theorem M_pub1 (hP : mP b ρ) (h : mrM I b sl ou cnt taken M) (hd : ∃ E, mDir I L b n E ∧ dR (nmx M.1 sl ou M.2.1) n E D) (hs : dS D) (ok : dOK M.1 (sl ++ ou) D) (hI : mI b sl ou D taken M) (ap : pk_ap sl ou) (h6 : cnt ≤ 6) (ht : taken ≤ cnt) (hz : ∀ i, i < 6 → mZ (M.1 (sl.getD i 0)) ∧ mZ (M.1 (ou.getD i 0))) (hnum : pk_nums M.1 sl cnt) (hn5 : ∀ i, i < cnt → (M.1 (sl.getD i 0)).1 < 100000) (hsl : ∀ f ∈ sl ++ ou, (∃ i, i < 6 ∧ f = sl.getD i 0) ∨ ∃ o, o < 6 ∧ f = ou.getD o 0) (hin : ∀ o, o < 6 → ou.getD o 0 ∈ sl ++ ou) (hDs : ∀ e ∈ D, ∃ i, i < cnt ∧ e.2.1 = sl.getD i 0) {ρ' : Type} {F : Int32 × aw_W → Option ρ'} {G : Option ρ' → Prop}
    (hG : ∀ I' i, mrM I' b sl ou cnt taken M → (∃ E, mDir I' L b n E ∧ dR (nmx M.1 sl ou M.2.1) n E (Dx M.1 ou M.2.2.2.2 D M.2.1)) → mfr I I' (fun a _ => a = b + 227 ∨ a = b + 228) → G (F (i, (s, pw_lay (pw_σ b) (I', L, ρ))))) :
    G ((aw_wh (σ := Int32 × aw_W) (τ := Int32 × aw_W) (fun s1 =>
    (aw_gI s1.2 (some (b + 211)) 7 28).bind fun v2 =>
    if v2 ≤ s1.1 then
      some (.inr (s1.1, s1.2))
    else
      (aw_wh (σ := Int32 × aw_W) (τ := Int32 × aw_W) (fun s3 =>
        (aw_gR s3.2 (some (b + 211)) 7 9).bind fun v4 =>
        (aw_aI s3.2 v4 1 ((6 : Int32) + s1.1)).bind fun v5 =>
        if v5 ≤ s3.1 then
          some (.inr (s3.1, s3.2))
        else
          (aw_gR s3.2 (some (b + 211)) 7 13).bind fun v6 =>
          (aw_aI s3.2 v6 1 (((12 : Int32) * ((6 : Int32) + s1.1)) + s3.1)).bind fun v7 =>
          (aw_gR s3.2 (some (b + 211)) 7 14).bind fun v8 =>
          (aw_aI s3.2 v8 1 (((12 : Int32) * ((6 : Int32) + s1.1)) + s3.1)).bind fun v9 =>
          (aw_obj s3.2 (some (b + 211)) 7).bind fun v10 =>
          (f_M_live s3.2 (some (b + 211)) v7 v9).bind fun v11 =>
          (if v11 < 0 then
              some s3.2
            else
              (aw_gR s3.2 (some (b + 211)) 7 18).bind fun v12 =>
              (aw_gR s3.2 (some (b + 211)) 7 2).bind fun v13 =>
              (aw_aI s3.2 v13 1 s1.1).bind fun v14 =>
              (aw_sI s3.2 v12 1 v11 ((100000 : Int32) + v14)).bind fun v15 =>
              (aw_gR v15 (some (b + 211)) 7 19).bind fun v16 =>
              (aw_sI v15 v16 1 v11 s3.1).bind fun v17 =>
              some v17 : Option (aw_W)).bind fun j18 =>
          some (.inl (s3.1 + 1, j18))) ((0 : Int32), s1.2)).bind fun e19 =>
      some (.inl (s1.1 + 1, e19.2))) ((0 : Int32), (s, pw_lay (pw_σ b) (I, L, ρ)))).bind F) := by
  have hI' := hI
  obtain ⟨i1, i2, i3, i4, i5, i6, i7, i8, i9, i10⟩ := hI'
  have hm6 : M.2.1 ≤ 6 := by omega
  have Dok := Dx_ok hI hin hm6 ok hs
  have keep : ∀ {J : mN}, mfr I J (fun a _ => a = b + 227 ∨ a = b + 228) → mrM J b sl ou cnt taken M := fun {J} g => by
    obtain ⟨q1, q2, q3, q4, q5, q6⟩ := h
    have e : ∀ a k, a ≠ b + 227 → a ≠ b + 228 → J a k = I a k := fun a k x y => g _ _ (fun hc => by omega)
    have kw : ∀ {i : Nat} {t : qf}, mZ t → mW I b i t → mW J b i t := fun {i} {t} hzt hw => hw.fr hzt g (fun a k hk hc => by unfold mC at hk; omega)
    refine ⟨fun i hi => ⟨by rw [e _ _ (by omega) (by omega)]; exact (q1 i hi).1, kw (hz i (by omega)).1 (q1 i hi).2⟩, by rw [e _ _ (by omega) (by omega)]; exact q2, by rw [e _ _ (by omega) (by omega)]; exact q3, by rw [e _ _ (by omega) (by omega)]; exact q4, by rw [e _ _ (by omega) (by omega)]; exact q5, fun o ho => ⟨kw (hz o (by omega)).2 (q6 o ho).1, fun j hj => by rw [e _ _ (by omega) (by omega), e _ _ (by omega) (by omega)]; exact (q6 o ho).2 j hj⟩⟩
  -- an entry is where its number says
  have huq : ∀ X, dOK M.1 (sl ++ ou) X → (∀ e ∈ X, (∃ i, i < cnt ∧ e.2.1 = sl.getD i 0) ∨ ∃ o, o < M.2.1 ∧ e.2.1 = ou.getD o 0) → ∀ i, i < cnt → ∀ e ∈ X, nmx M.1 sl ou M.2.1 e.2.1 = nmx M.1 sl ou M.2.1 (sl.getD i 0) → e.2.1 = sl.getD i 0 := fun X okX hX i hi e he hn => by
    rw [nmx_sl M.2.1 (fun o ho => ap.2.2.2.2 i o (by omega) (by omega))] at hn
    rcases hX e he with ⟨j, hj, ej⟩ | ⟨o, ho, eo⟩
    · rw [ej, nmx_sl M.2.1 (fun o ho => ap.2.2.2.2 j o (by omega) (by omega))] at hn
      rw [ej, (hnum i hi).2 j hj hn]
    · rw [eo, nmx_ou ap M.2.1 hm6 o ho] at hn
      have := hn5 i hi
      omega
  -- where entries are
  have inX : ∀ o, o ≤ M.2.1 → ∀ j, (∀ e ∈ Dx M.1 ou M.2.2.2.2 D o, (∃ i, i < cnt ∧ e.2.1 = sl.getD i 0) ∨ ∃ o, o < M.2.1 ∧ e.2.1 = ou.getD o 0) → o < M.2.1 → j ≤ (M.1 (ou.getD o 0)).2.2.2.2.length → ∀ e ∈ pd_out (pn_rk (M.1 (ou.getD o 0))) (M.2.2.2.2 o) (ou.getD o 0) j (Dx M.1 ou M.2.2.2.2 D o), (∃ i, i < cnt ∧ e.2.1 = sl.getD i 0) ∨ ∃ o, o < M.2.1 ∧ e.2.1 = ou.getD o 0 := by
    intro o ho j
    induction j with
    | zero => intro hX _ _ e he; exact hX e he
    | succ j ih =>
      intro hX ho' hj e he
      rw [pd_out] at he
      unfold pd_rep at he
      split at he
      · have hsj := (pd_out_ok hI ho' (hin o (by omega)) (Dok o ho).1 (Dok o ho).2 j (by omega)).2
        rcases (pe_en_mem hsj).mp he with ⟨h1, -⟩ | ⟨-, rfl⟩
        · exact ih hX ho' (by omega) e h1
        · exact Or.inr ⟨o, ho', rfl⟩
      · exact ih hX ho' (by omega) e he
  have inD : ∀ o, o ≤ M.2.1 → ∀ e ∈ Dx M.1 ou M.2.2.2.2 D o, (∃ i, i < cnt ∧ e.2.1 = sl.getD i 0) ∨ ∃ o, o < M.2.1 ∧ e.2.1 = ou.getD o 0 := by
    intro o
    induction o with
    | zero => intro _ e he; exact Or.inl (hDs e he)
    | succ o ih => intro ho e he; exact inX o (by omega) _ (ih (by omega)) (by omega) (Nat.le_refl _) e he
  refine pw_loopG (G := G) M.2.1 (fun m a => ∃ o J, a = (nI o, (s, pw_lay (pw_σ b) (J, L, ρ))) ∧ o + m = M.2.1 ∧ mfr I J (fun a _ => a = b + 227 ∨ a = b + 228) ∧ ∃ E, mDir J L b n E ∧ dR (nmx M.1 sl ou M.2.1) n E (Dx M.1 ou M.2.2.2.2 D o))
    (fun a => ∃ i J, a = (i, (s, pw_lay (pw_σ b) (J, L, ρ))) ∧ mfr I J (fun a _ => a = b + 227 ∨ a = b + 228) ∧ ∃ E, mDir J L b n E ∧ dR (nmx M.1 sl ou M.2.1) n E (Dx M.1 ou M.2.2.2.2 D M.2.1)) ⟨0, I, rfl, Nat.zero_add _, mfr.rfl, hd⟩ ?_ ?_
  · rintro m a ⟨o, J, rfl, hom, gJ, hE⟩
    have kJ := keep gJ
    dsimp only
    rw [mf_28, Option.bind_some, kJ.2.2.2.2.1]
    by_cases c : o < M.2.1
    · left
      rw [if_neg (nI_ge c (by omega))]
      have e6 : (6 : Int32) + nI o = nI (6 + o) := by rw [show (6 : Int32) = nI 6 from rfl, nI_add]
      rw [e6]
      have h11 := (hz o (by omega)).2.2.2
      refine pw_loopG (G := fun x => ∃ m' s', m' < m ∧ x = some (Sum.inl s') ∧ ∃ o J, s' = (nI o, (s, pw_lay (pw_σ b) (J, L, ρ))) ∧ o + m' = M.2.1 ∧ mfr I J (fun a _ => a = b + 227 ∨ a = b + 228) ∧ ∃ E, mDir J L b n E ∧ dR (nmx M.1 sl ou M.2.1) n E (Dx M.1 ou M.2.2.2.2 D o)) (M.1 (ou.getD o 0)).2.2.2.2.length
        (fun q a => ∃ j K, a = (nI j, (s, pw_lay (pw_σ b) (K, L, ρ))) ∧ j + q = (M.1 (ou.getD o 0)).2.2.2.2.length ∧ mfr I K (fun a _ => a = b + 227 ∨ a = b + 228) ∧ ∃ E, mDir K L b n E ∧ dR (nmx M.1 sl ou M.2.1) n E (pd_out (pn_rk (M.1 (ou.getD o 0))) (M.2.2.2.2 o) (ou.getD o 0) j (Dx M.1 ou M.2.2.2.2 D o)))
        (fun a => ∃ i K, a = (i, (s, pw_lay (pw_σ b) (K, L, ρ))) ∧ mfr I K (fun a _ => a = b + 227 ∨ a = b + 228) ∧ ∃ E, mDir K L b n E ∧ dR (nmx M.1 sl ou M.2.1) n E (Dx M.1 ou M.2.2.2.2 D (o + 1))) ⟨0, J, rfl, Nat.zero_add _, gJ, hE⟩ ?_ ?_
      · rintro q a ⟨j, K, rfl, hjq, gK, E1, d1, r1⟩
        have kK := keep gK
        obtain ⟨w, hsrc⟩ := kK.2.2.2.2.2 o c
        dsimp only
        rw [mg_9 hP, Option.bind_some, ma_219 (by omega), Option.bind_some, w.2.2.2.2.2.2.1]
        by_cases cj : j < (M.1 (ou.getD o 0)).2.2.2.2.length
        · left
          obtain ⟨i0, b1, b2, b3, r, r', b4, b5, b6⟩ := i8 o j c cj
          obtain ⟨y1, y2⟩ := hsrc j cj
          have hX := inX o (by omega) j (inD o (by omega)) c (by omega)
          obtain ⟨okX, sX⟩ := pd_out_ok hI c (hin o (by omega)) (Dok o (by omega)).1 (Dok o (by omega)).2 j (by omega)
          have hi0 : i0 < cnt := by omega
          have hrk : pn_rk (M.1 (ou.getD o 0)) j = pn_rank r.2.1 r.2.2.1 := by
            unfold pn_rk
            rw [getD_of b5, b6]
          have hnmf : nmx M.1 sl ou M.2.1 (sl.getD i0 0) = (M.1 (sl.getD i0 0)).1 := nmx_sl M.2.1 (fun o ho => ap.2.2.2.2 i0 o (by omega) (by omega))
          obtain ⟨lv1, lv2⟩ := r1.live2 sX (f := sl.getD i0 0) (a := (M.2.2.2.2 o j).2) (huq _ okX hX i0 hi0) okX b4
          have hsi : (M.2.2.2.2 o j).2 < (M.1 (sl.getD i0 0)).2.2.2.2.length := (List.getElem?_eq_some_iff.mp b4).1
          have hz0 := (hz i0 (by omega)).1.2.2
          have hn0 := hn5 i0 hi0
          have hno := hn5 o (by omega)
          have esrc : M.2.2.2.2 o j = (sl.getD i0 0, (M.2.2.2.2 o j).2) := Prod.ext b2 rfl
          have hd66 := d1.2.1
          rw [b2] at y1
          rw [if_neg (nI_ge cj (by omega)), mg_13 hP, Option.bind_some, nI_12, ma_223 (by omega), Option.bind_some, y1, mg_14 hP, Option.bind_some, ma_224 (by omega), Option.bind_some, y2, mM_ob, Option.bind_some]
          by_cases hp : pe_find (pn_rank r.2.1 r.2.2.1) (pd_out (pn_rk (M.1 (ou.getD o 0))) (M.2.2.2.2 o) (ou.getD o 0) j (Dx M.1 ou M.2.2.2.2 D o)) = some (sl.getD i0 0, (M.2.2.2.2 o j).2)
          · obtain ⟨jj, hjj, x1, x2, x3, x4⟩ := lv1 hp
            rw [hnmf] at x1 x4
            have hEb := d1.2.2 jj hjj
            have e1e5 : (100000 : Int32) + nI (M.1 (sl.getD o 0)).1 = nI (100000 + (M.1 (sl.getD o 0)).1) := by rw [show (100000 : Int32) = nI 100000 from rfl, nI_add]
            have hrow := (kK.1 o (by omega)).1
            have hstep : pd_out (pn_rk (M.1 (ou.getD o 0))) (M.2.2.2.2 o) (ou.getD o 0) (j + 1) (Dx M.1 ou M.2.2.2.2 D o) = pe_en (pn_rank r.2.1 r.2.2.1) (ou.getD o 0, j) false (pd_out (pn_rk (M.1 (ou.getD o 0))) (M.2.2.2.2 o) (ou.getD o 0) j (Dx M.1 ou M.2.2.2.2 D o)) := by
              rw [pd_out]
              unfold pd_rep
              rw [hrk, if_pos (by rw [esrc]; exact hp)]
            rw [M_live_at hP d1 hjj x1 x2 x4, Option.bind_some, if_neg (nI_pos (by omega)), mg_18 hP, Option.bind_some, mg_2 hP, Option.bind_some, ma_212 (by omega), Option.bind_some, hrow, e1e5, ms_227 (by omega), Option.bind_some, mg_19 hP, Option.bind_some, ms_228 (by omega), Option.bind_some, Option.bind_some, nI_1]
            refine ⟨q - 1, _, by omega, rfl, j + 1, _, rfl, by omega, (gK.trans (mfr.uI (Or.inl rfl))).trans (mfr.uI (Or.inr rfl)), eu E1 jj ((E1 jj).1, (E1 jj).2.1, 100000 + (M.1 (sl.getD o 0)).1, j), ⟨?_, d1.2.1, fun i hi => ?_⟩, ?_⟩
            · rw [uI_ne (by omega), uI_ne (by omega)]; exact d1.1
            · obtain ⟨z1, z2, z3, z4, z5, z6, z7, z8⟩ := d1.2.2 i hi
              by_cases ci : i = jj
              · rw [ci, eu_at]
                rw [ci] at z1 z2 z5 z6
                refine ⟨z1, ?_, ?_, uI_at, z5, z6, by dsimp only; omega, by dsimp only; omega⟩
                · rw [uI_ne (by omega), uI_ne (by omega)]; exact z2
                · rw [uI_ne (by omega), uI_at]
              · rw [eu_ne ci]
                refine ⟨z1, ?_, ?_, ?_, z5, z6, z7, z8⟩
                · rw [uI_ne (by omega), uI_ne (by omega)]; exact z2
                · rw [uI_ne (by omega), uI_ne (by omega)]; exact z3
                · rw [uI_ne (by omega), uI_ne (by omega)]; exact z4
            · rw [hstep]
              have hset := r1.set_at (x := (E1 jj).1) (k := (E1 jj).2.1) (f := ou.getD o 0) (i := j) sX (by rw [x3]; exact hp) hjj rfl rfl
              rw [nmx_ou ap M.2.1 hm6 o c, x3] at hset
              exact hset
          · have hstep : pd_out (pn_rk (M.1 (ou.getD o 0))) (M.2.2.2.2 o) (ou.getD o 0) (j + 1) (Dx M.1 ou M.2.2.2.2 D o) = pd_out (pn_rk (M.1 (ou.getD o 0))) (M.2.2.2.2 o) (ou.getD o 0) j (Dx M.1 ou M.2.2.2.2 D o) := by
              rw [pd_out]
              unfold pd_rep
              rw [hrk, if_neg (by rw [esrc]; exact hp)]
            have hln := lv2 hp
            rw [hnmf] at hln
            rw [M_live_no hP d1 (by omega) (by omega) hln, Option.bind_some, if_pos (by decide), Option.bind_some, nI_1]
            exact ⟨q - 1, _, by omega, rfl, j + 1, K, rfl, by omega, gK, E1, d1, by rw [hstep]; exact r1⟩
        · right
          have hj : j = (M.1 (ou.getD o 0)).2.2.2.2.length := by omega
          rw [hj] at r1
          exact ⟨_, if_pos (nI_le (by omega) (by omega)), _, K, rfl, gK, E1, d1, r1⟩
      · rintro a ⟨i, K, rfl, gK, hE⟩
        exact ⟨m - 1, (nI (o + 1), (s, pw_lay (pw_σ b) (K, L, ρ))), by omega, by rw [nI_1], o + 1, K, rfl, by omega, gK, hE⟩
    · right
      have ho : o = M.2.1 := by omega
      rw [ho] at hE
      exact ⟨_, if_pos (nI_le (by omega) (by omega)), _, J, rfl, gJ, hE⟩
  · rintro a ⟨i, J, rfl, gJ, hE⟩
    exact hG J i (keep gJ) hE gJ
end
