/-! ===== the reference's merge comes to the next record, on ===== -/
section
variable {I I' : mN} {L L' : mL} {ρ : mQ} {s : Option Nat} {b n : Nat} {E : qE} {φ φ' : Nat → qf} {sl : List Nat} {cnt : Nat} {D : List (Nat × Nat × Nat)} {ou : List Nat} {taken : Nat}
/-- a record is copied to the last output -/
theorem M_copyTo (hP : mP b ρ) {made af ar : Nat} {src : Nat → Nat → Nat × Nat} (h : mrM I b sl ou cnt taken (φ, made, af, ar, src)) (ap : pk_ap sl ou) (h6 : cnt ≤ 6) (hz : ∀ i, i < 6 → mZ (φ (sl.getD i 0)) ∧ mZ (φ (ou.getD i 0))) (haf : af < cnt) {r : qr} (hr : (φ (sl.getD af 0)).2.2.2.2[ar]? = some r) {o : Nat} (ho : o < 6) (hom : o + 1 = made) (hc : (φ (ou.getD o 0)).2.2.2.2.length < 11) (hfit : r.1 + pn_len r.2.1 r.2.2.2 ≤ (φ (sl.getD af 0)).2.1.length) (room : (φ (ou.getD o 0)).2.1.length + pn_len r.2.1 r.2.2.2 ≤ 100) :
    ∃ I', ((aw_gI (s, pw_lay (pw_σ b) (I, L, ρ)) (some (b + 211)) 7 28).bind fun v26 =>
      (aw_gR (s, pw_lay (pw_σ b) (I, L, ρ)) (some (b + 211)) 7 9).bind fun v27 =>
      (aw_aI (s, pw_lay (pw_σ b) (I, L, ρ)) v27 1 ((5 : Int32) + v26)).bind fun v28 =>
      (aw_gR (s, pw_lay (pw_σ b) (I, L, ρ)) (some (b + 211)) 7 13).bind fun v29 =>
      (aw_gR (s, pw_lay (pw_σ b) (I, L, ρ)) (some (b + 211)) 7 2).bind fun v30 =>
      (aw_gI (s, pw_lay (pw_σ b) (I, L, ρ)) (some (b + 211)) 7 26).bind fun v31 =>
      (aw_aI (s, pw_lay (pw_σ b) (I, L, ρ)) v30 1 v31).bind fun v32 =>
      (aw_sI (s, pw_lay (pw_σ b) (I, L, ρ)) v29 1 (((12 : Int32) * ((5 : Int32) + v26)) + v28) v32).bind fun v33 =>
      (aw_gR v33 (some (b + 211)) 7 14).bind fun v34 =>
      (aw_gI v33 (some (b + 211)) 7 27).bind fun v35 =>
      (aw_sI v33 v34 1 (((12 : Int32) * ((5 : Int32) + v26)) + v28) v35).bind fun v36 =>
      (aw_gI v36 (some (b + 211)) 7 26).bind fun v37 =>
      (aw_gR v36 (some (b + 211)) 7 10).bind fun v38 =>
      (aw_gI v36 (some (b + 211)) 7 26).bind fun v39 =>
      (aw_gI v36 (some (b + 211)) 7 27).bind fun v40 =>
      (aw_aI v36 v38 1 (((12 : Int32) * v39) + v40)).bind fun v41 =>
      (aw_gR v36 (some (b + 211)) 7 3).bind fun v42 =>
      (aw_aI v36 v42 1 ((5 : Int32) + v26)).bind fun v43 =>
      (aw_gR v36 (some (b + 211)) 7 11).bind fun v44 =>
      (aw_gI v36 (some (b + 211)) 7 26).bind fun v45 =>
      (aw_gI v36 (some (b + 211)) 7 27).bind fun v46 =>
      (aw_aI v36 v44 1 (((12 : Int32) * v45) + v46)).bind fun v47 =>
      (aw_gR v36 (some (b + 211)) 7 12).bind fun v48 =>
      (aw_gI v36 (some (b + 211)) 7 26).bind fun v49 =>
      (aw_gI v36 (some (b + 211)) 7 27).bind fun v50 =>
      (aw_aI v36 v48 1 (((12 : Int32) * v49) + v50)).bind fun v51 =>
      (aw_obj v36 (some (b + 211)) 7).bind fun v52 =>
      (f_M_note v36 (some (b + 211)) ((5 : Int32) + v26) v43 v47 v51).bind fun v53 =>
      (aw_wh (σ := Int32 × aw_W) (τ := Int32 × aw_W) (fun s54 =>
        if nI (pn_len r.2.1 r.2.2.2) ≤ s54.1 then
          some (.inr (s54.1, s54.2))
        else
          (aw_gR s54.2 (some (b + 211)) 7 5).bind fun v55 =>
          (aw_aI s54.2 v55 1 ((((100 : Int32) * v37) + v41) + s54.1)).bind fun v56 =>
          (aw_obj s54.2 (some (b + 211)) 7).bind fun v57 =>
          (f_M_putByte s54.2 (some (b + 211)) ((5 : Int32) + v26) v56).bind fun v58 =>
          some (.inl (s54.1 + 1, v58))) ((0 : Int32), v53)).bind fun e59 =>
      some e59.2) = some (s, pw_lay (pw_σ b) (I', L, ρ)) ∧ mrM I' b sl ou cnt taken (pu φ (ou.getD o 0) (pt_cp (φ (ou.getD o 0)) (φ (sl.getD af 0)) r), made, af, ar, su src o (φ (ou.getD o 0)).2.2.2.2.length (sl.getD af 0, ar)) ∧ mfr I I' (fun a k => mC b (6 + o) a k ∧ a ≠ b + 212) := by
  obtain ⟨q1, q2, q3, q4, q5, q6⟩ := h
  dsimp only at q1 q3 q4 q5 q6
  obtain ⟨w, hsrc⟩ := q6 o (by omega)
  obtain ⟨n1, w1⟩ := q1 af haf
  have hz1 := (hz af (by omega)).1
  have hz2 := (hz o ho).2
  have har11 : ar < (φ (sl.getD af 0)).2.2.2.2.length := (List.getElem?_eq_some_iff.mp hr).1
  have hl11 := hz1.2.2
  obtain ⟨g1, g2, g3⟩ := w1.2.2.2.2.2.2.2 ar r hr
  have e5 : (5 : Int32) + nI made = nI (6 + o) := by rw [show (5 : Int32) = nI 5 from rfl, nI_add]; congr 1; omega
  -- the two sources
  have frJ : mfr I (uI (uI I (b + 223) (12 * (6 + o) + (φ (ou.getD o 0)).2.2.2.2.length) (nI (φ (sl.getD af 0)).1)) (b + 224) (12 * (6 + o) + (φ (ou.getD o 0)).2.2.2.2.length) (nI ar)) (fun a k => (a = b + 223 ∨ a = b + 224) ∧ k = 12 * (6 + o) + (φ (ou.getD o 0)).2.2.2.2.length) := (mfr.uI ⟨by omega, rfl⟩).trans (mfr.uI ⟨by omega, rfl⟩)
  have e223 : uI (uI I (b + 223) (12 * (6 + o) + (φ (ou.getD o 0)).2.2.2.2.length) (nI (φ (sl.getD af 0)).1)) (b + 224) (12 * (6 + o) + (φ (ou.getD o 0)).2.2.2.2.length) (nI ar) (b + 223) (12 * (6 + o) + (φ (ou.getD o 0)).2.2.2.2.length) = nI (φ (sl.getD af 0)).1 := by rw [uI_ne (by omega), uI_at]
  have e224 : uI (uI I (b + 223) (12 * (6 + o) + (φ (ou.getD o 0)).2.2.2.2.length) (nI (φ (sl.getD af 0)).1)) (b + 224) (12 * (6 + o) + (φ (ou.getD o 0)).2.2.2.2.length) (nI ar) (b + 224) (12 * (6 + o) + (φ (ou.getD o 0)).2.2.2.2.length) = nI ar := uI_at
  have pre : ∀ (X : aw_W → Option aw_W), ((aw_gR (s, pw_lay (pw_σ b) (I, L, ρ)) (some (b + 211)) 7 13).bind fun v29 =>
      (aw_gR (s, pw_lay (pw_σ b) (I, L, ρ)) (some (b + 211)) 7 2).bind fun v30 =>
      (aw_gI (s, pw_lay (pw_σ b) (I, L, ρ)) (some (b + 211)) 7 26).bind fun v31 =>
      (aw_aI (s, pw_lay (pw_σ b) (I, L, ρ)) v30 1 v31).bind fun v32 =>
      (aw_sI (s, pw_lay (pw_σ b) (I, L, ρ)) v29 1 (((12 : Int32) * nI (6 + o)) + nI (φ (ou.getD o 0)).2.2.2.2.length) v32).bind fun v33 =>
      (aw_gR v33 (some (b + 211)) 7 14).bind fun v34 =>
      (aw_gI v33 (some (b + 211)) 7 27).bind fun v35 =>
      (aw_sI v33 v34 1 (((12 : Int32) * nI (6 + o)) + nI (φ (ou.getD o 0)).2.2.2.2.length) v35).bind X) = X (s, pw_lay (pw_σ b) (uI (uI I (b + 223) (12 * (6 + o) + (φ (ou.getD o 0)).2.2.2.2.length) (nI (φ (sl.getD af 0)).1)) (b + 224) (12 * (6 + o) + (φ (ou.getD o 0)).2.2.2.2.length) (nI ar), L, ρ)) := by
    intro X
    rw [mg_13 hP, Option.bind_some, mg_2 hP, Option.bind_some, mf_26, Option.bind_some, q3, ma_212 (by omega), Option.bind_some, n1, nI_12, ms_223 (by omega), Option.bind_some, mg_14 hP, Option.bind_some, mf_27, Option.bind_some, uI_ne (by omega), q4, ms_224 (by omega), Option.bind_some]
  generalize uI (uI I (b + 223) (12 * (6 + o) + (φ (ou.getD o 0)).2.2.2.2.length) (nI (φ (sl.getD af 0)).1)) (b + 224) (12 * (6 + o) + (φ (ou.getD o 0)).2.2.2.2.length) (nI ar) = J at frJ e223 e224 pre
  have keep : ∀ {i : Nat} {t : qf}, mZ t → mW I b i t → mW J b i t := fun {i} {t} hzt hw => by
    obtain ⟨h1, h2, h3, h4, h5, h6, h7, h8⟩ := hw
    have e : ∀ a k, a ≠ b + 223 → a ≠ b + 224 → J a k = I a k := fun a k x y => frJ _ _ (fun hc => by omega)
    refine ⟨?_, ?_, fun k hk => ?_, ?_, fun hn => ?_, fun k hk => ?_, ?_, fun k r hr => ?_⟩
    · rw [e _ _ (by omega) (by omega)]; exact h1
    · rw [e _ _ (by omega) (by omega)]; exact h2
    · rw [e _ _ (by omega) (by omega)]; exact h3 k hk
    · rw [e _ _ (by omega) (by omega)]; exact h4
    · rw [e _ _ (by omega) (by omega)]; exact h5 hn
    · rw [e _ _ (by omega) (by omega)]; exact h6 k hk
    · rw [e _ _ (by omega) (by omega)]; exact h7
    · rw [e _ _ (by omega) (by omega), e _ _ (by omega) (by omega), e _ _ (by omega) (by omega)]; exact h8 k r hr
  have wJ := keep hz2 w
  have w1J := keep hz1 w1
  have fJ : ∀ c, J (b + 211) c = I (b + 211) c := fun c => frJ _ _ (fun hc => by omega)
  obtain ⟨J1, x1, x2, x3⟩ := M_note (s := s) (L := L) hP wJ (by omega) (by omega) (φ (ou.getD o 0)).2.1.length r.2.1 r.2.2.1 r.2.2.2
  have x3' : mfr J J1 (mC b (6 + o)) := x3.mono (fun a c hc => by unfold mC; omega)
  have w1J1 : mW J1 b af (φ (sl.getD af 0)) := w1J.off hz1 x3' (by omega)
  obtain ⟨J2, y1, y2, y3⟩ := M_copyBytes (s := s) (L := L) hP x2 w1J1 hz1 (by omega) (by omega) (by omega) (p := r.1) (len := pn_len r.2.1 r.2.2.2) hfit room
  dsimp only at y2
  have fall : mfr I J2 (fun a k => mC b (6 + o) a k ∧ a ≠ b + 212) := ((frJ.mono (fun a c hc => by unfold mC; omega)).trans (x3.mono (fun a c hc => by unfold mC; omega))).trans (y3.mono (fun a c hc => by unfold mCb at hc; unfold mC; omega))
  have fl2 : ∀ c, J2 (b + 211) c = I (b + 211) c := fun c => fall _ _ (fun hc => by have := hc.1; unfold mC at this; omega)
  have gJ1 : J (b + 220) (12 * af + ar) = nI r.1 ∧ J (b + 221) (12 * af + ar) = nI r.2.1 ∧ J (b + 222) (12 * af + ar) = nI r.2.2.2 := w1J.2.2.2.2.2.2.2 ar r hr
  refine ⟨J2, ?_, ⟨fun i hi => ?_, by rw [fl2]; exact q2, by rw [fl2]; exact q3, by rw [fl2]; exact q4, by rw [fl2]; exact q5, fun o' ho' => ?_⟩, fall⟩
  · rw [mf_28, Option.bind_some, q5, e5, mg_9 hP, Option.bind_some, ma_219 (by omega), Option.bind_some, w.2.2.2.2.2.2.1, pre, mf_26, Option.bind_some, fJ, q3, mg_10 hP, Option.bind_some, Option.bind_some, mf_27, Option.bind_some, fJ, q4, nI_12, ma_220 (by omega), Option.bind_some, gJ1.1, mg_3 hP, Option.bind_some, ma_213 (by omega), Option.bind_some, wJ.1, mg_11 hP, Option.bind_some, Option.bind_some, Option.bind_some, nI_12, ma_221 (by omega), Option.bind_some, gJ1.2.1, mg_12 hP, Option.bind_some, Option.bind_some, Option.bind_some, nI_12, ma_222 (by omega), Option.bind_some, gJ1.2.2, mM_ob, Option.bind_some, x1, Option.bind_some, nI_100, y1]
    rfl
  · obtain ⟨u1, u2⟩ := q1 i hi
    have hne : sl.getD i 0 ≠ ou.getD o 0 := ap.2.2.2.2 i o (by omega) ho
    dsimp only
    rw [pu_ne hne]
    refine ⟨by rw [fall _ _ (fun hc => hc.2 rfl)]; exact u1, u2.fr (hz i (by omega)).1 fall (fun a k hk hc => mC_ne (show i ≠ 6 + o by omega) hk hc.1)⟩
  · dsimp only at ho' ⊢
    have hnum : ∀ f, (pu φ (ou.getD o 0) (pt_cp (φ (ou.getD o 0)) (φ (sl.getD af 0)) r) f).1 = (φ f).1 := fun f => by
      by_cases c : f = ou.getD o 0
      · rw [c, pu_at]
        rfl
      · rw [pu_ne c]
    have keep2 : ∀ a k, a = b + 223 ∨ a = b + 224 → J2 a k = J a k := fun a k hk => by
      rw [y3 _ _ (fun hc => by unfold mCb at hc; omega), x3 _ _ (fun hc => by omega)]
    by_cases c : o' = o
    · subst c
      rw [pu_at]
      refine ⟨y2, fun j hj => ?_⟩
      have hj2 : j < (φ (ou.getD o' 0)).2.2.2.2.length + 1 := by
        have : (pt_cp (φ (ou.getD o' 0)) (φ (sl.getD af 0)) r).2.2.2.2.length = (φ (ou.getD o' 0)).2.2.2.2.length + 1 := by
          show ((φ (ou.getD o' 0)).2.2.2.2 ++ [_]).length = _
          rw [List.length_append, List.length_singleton]
        omega
      rw [keep2 _ _ (Or.inl rfl), keep2 _ _ (Or.inr rfl), hnum]
      by_cases cj : j = (φ (ou.getD o' 0)).2.2.2.2.length
      · unfold su
        rw [if_pos ⟨rfl, cj⟩, cj]
        exact ⟨e223, e224⟩
      · unfold su
        rw [if_neg (fun hc => cj hc.2), frJ _ _ (fun hc => by omega), frJ _ _ (fun hc => by omega)]
        exact hsrc j (by omega)
    · have hne : ou.getD o' 0 ≠ ou.getD o 0 := fun hc => c (ap.2.2.2.1 o' o (by omega) ho hc)
      obtain ⟨v1, v2⟩ := q6 o' ho'
      rw [pu_ne hne]
      have hz3 := (hz o' (by omega)).2
      refine ⟨v1.fr hz3 fall (fun a k hk hc => mC_ne (show 6 + o' ≠ 6 + o by omega) hk hc.1), fun j hj => ?_⟩
      have h11 := hz3.2.2
      unfold su
      rw [if_neg (fun hc => c hc.1), hnum, keep2 _ _ (Or.inl rfl), keep2 _ _ (Or.inr rfl), frJ _ _ (fun hc => by omega), frJ _ _ (fun hc => by omega)]
      exact v2 j hj
end
