/-! ===== the reference's merge comes to the next record ===== -/
section
variable {I I' : mN} {L L' : mL} {ρ : mQ} {s : Option Nat} {b n : Nat} {E : qE} {φ φ' : Nat → qf} {sl : List Nat} {cnt : Nat} {D : List (Nat × Nat × Nat)} {ou : List Nat} {taken : Nat}
theorem dR.live (hr : dR (fun f => (φ f).1) n E D) (hs : dS D) (hnum : pk_nums φ sl cnt) (ok : ∀ e ∈ D, ∃ j r, j < cnt ∧ e.2.1 = sl.getD j 0 ∧ (φ e.2.1).2.2.2.2[e.2.2]? = some r ∧ e.1 = pn_rank r.2.1 r.2.2.1) {i a : Nat} {r : qr} (hi : i < cnt) (hra : (φ (sl.getD i 0)).2.2.2.2[a]? = some r) :
    (pe_find (pn_rank r.2.1 r.2.2.1) D = some (sl.getD i 0, a) → ∃ j, j < n ∧ (E j).2.2.1 = (φ (sl.getD i 0)).1 ∧ (E j).2.2.2 = a ∧ ∀ j', j' < n → (E j').2.2.1 = (φ (sl.getD i 0)).1 → (E j').2.2.2 = a → j' = j) ∧
    (¬ pe_find (pn_rank r.2.1 r.2.2.1) D = some (sl.getD i 0, a) → ∀ j, j < n → ¬ ((E j).2.2.1 = (φ (sl.getD i 0)).1 ∧ (E j).2.2.2 = a)) := by
  obtain ⟨r1, r2, r3, r4, r5⟩ := hr
  have key : ∀ j, j < n → (E j).2.2.1 = (φ (sl.getD i 0)).1 → (E j).2.2.2 = a → pn_rank (E j).2.1 (E j).1 = pn_rank r.2.1 r.2.2.1 ∧ (pn_rank r.2.1 r.2.2.1, sl.getD i 0, a) ∈ D := fun j hj hf ha => by
    obtain ⟨e, he, a1, a2, a3⟩ := r4 j hj
    obtain ⟨j', r', b1, b2, b3, b4⟩ := ok e he
    have a2' : (E j).2.2.1 = (φ e.2.1).1 := a2
    rw [hf, b2] at a2'
    have := (hnum i hi).2 j' b1 a2'.symm
    subst this
    have e2 : e.2.2 = a := by rw [← a3, ha]
    rw [b2, e2, hra] at b3
    cases b3
    refine ⟨a1.trans b4, ?_⟩
    have : e = (pn_rank r.2.1 r.2.2.1, sl.getD j' 0, a) := Prod.ext b4 (Prod.ext b2 e2)
    rw [← this]
    exact he
  refine ⟨fun hp => ?_, fun hp j hj hc => hp (pe_find_of hs (key j hj hc.1 hc.2).2)⟩
  obtain ⟨j, hj, a1, a2, a3⟩ := r3 _ (pe_find_in hp)
  refine ⟨j, hj, a2, a3, fun j' hj' h1 h2 => r5 j' j hj' hj ?_⟩
  rw [a1]
  exact (key j' hj' h1 h2).1
/-- the reference in a merge -/
def mrM (I : mN) (b : Nat) (sl ou : List Nat) (cnt taken : Nat) (M : qM) : Prop := mF I b M.1 sl cnt ∧ I (b + 211) 25 = nI taken ∧ I (b + 211) 26 = nI M.2.2.1 ∧ I (b + 211) 27 = nI M.2.2.2.1 ∧ I (b + 211) 28 = nI M.2.1 ∧ mOut I b M.1 ou M.2.1 M.2.2.2.2
/-- what a merge's step touches in the reference -/
def mCg (b a k : Nat) : Prop := (a = b + 211 ∧ (k = 26 ∨ k = 27 ∨ k = 28)) ∨ ∃ o, o < 6 ∧ mC b (6 + o) a k ∧ a ≠ b + 212
theorem mrM.cur {M : qM} (h : mrM I b sl ou cnt taken M) (x y : Nat) : mrM (uI (uI I (b + 211) 26 (nI x)) (b + 211) 27 (nI y)) b sl ou cnt taken (M.1, M.2.1, x, y, M.2.2.2.2) := by
  obtain ⟨h1, h2, h3, h4, h5, h6⟩ := h
  refine ⟨(h1.fld _ _).fld _ _, ?_, ?_, uI_at, ?_, (h6.fld _ _).fld _ _⟩
  · rw [uI_ne (by omega), uI_ne (by omega)]; exact h2
  · rw [uI_ne (by omega), uI_at]
  · rw [uI_ne (by omega), uI_ne (by omega)]; exact h5
theorem M_skip (hP : mP b ρ) {M : qM} (h : mrM I b sl ou cnt taken M) (h6 : cnt ≤ 6) (ht : taken ≤ cnt) (haf : M.2.2.1 ≤ taken) (hz : ∀ i, i < cnt → mZ (M.1 (sl.getD i 0))) (har : M.2.2.1 < taken → M.2.2.2.1 ≤ pk_cs M.1 sl M.2.2.1) : ∃ I', f_M_skip (s, pw_lay (pw_σ b) (I, L, ρ)) (some (b + 211)) = some (s, pw_lay (pw_σ b) (I', L, ρ)) ∧ mrM I' b sl ou cnt taken (pk_skM sl taken M) ∧ mfr I I' (fun a k => a = b + 211 ∧ (k = 26 ∨ k = 27)) := by
  unfold f_M_skip
  generalize hK : pk_skM sl taken M = K
  unfold pk_skM at hK
  refine pw_loopG (G := fun x => ∃ I', x = some (s, pw_lay (pw_σ b) (I', L, ρ)) ∧ mrM I' b sl ou cnt taken K ∧ mfr I I' (fun a k => a = b + 211 ∧ (k = 26 ∨ k = 27))) (taken - M.2.2.1)
    (fun m a => ∃ x y I1, a = (s, pw_lay (pw_σ b) (I1, L, ρ)) ∧ mrM I1 b sl ou cnt taken (M.1, M.2.1, x, y, M.2.2.2.2) ∧ mfr I I1 (fun a k => a = b + 211 ∧ (k = 26 ∨ k = 27)) ∧ x ≤ taken ∧ m = taken - x ∧ (x < taken → y ≤ pk_cs M.1 sl x) ∧ (M.1, M.2.1, (pk_sk (pk_cs M.1 sl) (taken - x) x y).1, (pk_sk (pk_cs M.1 sl) (taken - x) x y).2, M.2.2.2.2) = K)
    (fun a => ∃ I1, a = (s, pw_lay (pw_σ b) (I1, L, ρ)) ∧ mrM I1 b sl ou cnt taken K ∧ mfr I I1 (fun a k => a = b + 211 ∧ (k = 26 ∨ k = 27))) ⟨M.2.2.1, M.2.2.2.1, I, rfl, h, mfr.rfl, haf, rfl, har, hK⟩ ?_ ?_
  · rintro m a ⟨x, y, I1, rfl, k1, g1, hx, hm, hy, hk⟩
    obtain ⟨q1, q2, q3, q4, q5, q6⟩ := k1
    dsimp only at q3 q4 q5 q1
    rw [mf_26, Option.bind_some, q3, mf_25, Option.bind_some, q2]
    by_cases c : x < taken
    · obtain ⟨w1, w2⟩ := q1 x (by omega)
      have h11 := (hz x (by omega)).2.2
      have hy' := hy c
      obtain ⟨m', hm'⟩ : ∃ m', taken - x = m' + 1 := ⟨taken - x - 1, by omega⟩
      rw [hm', pk_sk] at hk
      rw [if_neg (nI_ge c (by omega)), mf_27, Option.bind_some, q4, mg_9 hP, Option.bind_some, Option.bind_some, ma_219 (by omega), Option.bind_some, w2.2.2.2.2.2.2.1]
      have hcs : pk_cs M.1 sl x = (M.1 (sl.getD x 0)).2.2.2.2.length := rfl
      by_cases c2 : y < pk_cs M.1 sl x
      · rw [if_pos c2] at hk
        right
        refine ⟨_, if_neg (fun hc => by have := (nI_eq (by omega) (by omega)).mp hc; omega), I1, rfl, ?_, g1⟩
        rw [← hk]
        exact ⟨q1, q2, q3, q4, q5, q6⟩
      · rw [if_neg c2] at hk
        left
        rw [if_pos (by congr 1; omega), Option.bind_some, nI_1, mw_26, Option.bind_some, show (Value.int 0) = Value.int (nI 0) from rfl, mw_27, Option.bind_some]
        refine ⟨m', _, by omega, rfl, x + 1, 0, _, rfl, mrM.cur (M := (M.1, M.2.1, x, y, M.2.2.2.2)) ⟨q1, q2, q3, q4, q5, q6⟩ (x + 1) 0, (g1.trans (mfr.uI ⟨rfl, by omega⟩)).trans (mfr.uI ⟨rfl, by omega⟩), by omega, by omega, fun _ => Nat.zero_le _, ?_⟩
        rw [show taken - (x + 1) = m' by omega]
        exact hk
    · right
      rw [show taken - x = 0 by omega, pk_sk] at hk
      refine ⟨_, if_pos (nI_le (by omega) (by omega)), I1, rfl, ?_, g1⟩
      rw [← hk]
      exact ⟨q1, q2, q3, q4, q5, q6⟩
  · rintro a ⟨I1, rfl, k1, g1⟩
    exact ⟨I1, rfl, k1, g1⟩
/-- bytes of a row are put to another -/
theorem M_copyBytes (hP : mP b ρ) {i o : Nat} {t u : qf} (h : mW I b o t) (hu : mW I b i u) (hzu : mZ u) (hi : i < 12) (ho : o < 12) (hio : i ≠ o) {p len : Nat} (hp : p + len ≤ u.2.1.length) (hl : t.2.1.length + len ≤ 100) :
    ∃ I', (aw_wh (σ := Int32 × aw_W) (τ := Int32 × aw_W) (fun s54 =>
        if nI len ≤ s54.1 then
          some (.inr (s54.1, s54.2))
        else
          (aw_gR s54.2 (some (b + 211)) 7 5).bind fun v55 =>
          (aw_aI s54.2 v55 1 (nI (100 * i + p) + s54.1)).bind fun v56 =>
          (aw_obj s54.2 (some (b + 211)) 7).bind fun v57 =>
          (f_M_putByte s54.2 (some (b + 211)) (nI o) v56).bind fun v58 =>
          some (.inl (s54.1 + 1, v58))) ((0 : Int32), (s, pw_lay (pw_σ b) (I, L, ρ)))) = some (nI len, (s, pw_lay (pw_σ b) (I', L, ρ))) ∧ mW I' b o (t.1, t.2.1 ++ (u.2.1.drop p).take len, t.2.2) ∧ mfr I I' (mCb b o) := by
  have key : ∀ m j (J : mN), j + m = len → mW J b o (t.1, t.2.1 ++ (u.2.1.drop p).take j, t.2.2) → mfr I J (mCb b o) → ∃ I', (aw_wh (σ := Int32 × aw_W) (τ := Int32 × aw_W) (fun s54 =>
        if nI len ≤ s54.1 then
          some (.inr (s54.1, s54.2))
        else
          (aw_gR s54.2 (some (b + 211)) 7 5).bind fun v55 =>
          (aw_aI s54.2 v55 1 (nI (100 * i + p) + s54.1)).bind fun v56 =>
          (aw_obj s54.2 (some (b + 211)) 7).bind fun v57 =>
          (f_M_putByte s54.2 (some (b + 211)) (nI o) v56).bind fun v58 =>
          some (.inl (s54.1 + 1, v58))) (nI j, (s, pw_lay (pw_σ b) (J, L, ρ)))) = some (nI len, (s, pw_lay (pw_σ b) (I', L, ρ))) ∧ mW I' b o (t.1, t.2.1 ++ (u.2.1.drop p).take len, t.2.2) ∧ mfr I I' (mCb b o) := by
    intro m
    induction m with
    | zero =>
      intro j J hj w g
      have : j = len := by omega
      subst this
      refine ⟨J, aw_wh_out ?_, w, g⟩
      exact if_pos (nI_le (Nat.le_refl _) (by have := hzu.1; omega))
    | succ m ih =>
      intro j J hj w g
      have hz1 := hzu.1
      have huJ : J (b + 215) (100 * i + (p + j)) = nI (u.2.1.getD (p + j) 0) := by
        rw [g _ _ (fun hc => by unfold mCb at hc; omega)]
        exact hu.2.2.1 (p + j) (by omega)
      have htl : ((u.2.1.drop p).take j).length = j := by rw [List.length_take, List.length_drop]; omega
      obtain ⟨J2, e2, w2, g2⟩ := M_putByte (s := s) (L := L) hP w ho (by dsimp only; rw [List.length_append, htl]; omega) (u.2.1.getD (p + j) 0)
      dsimp only at w2
      have e9 : t.2.1 ++ (u.2.1.drop p).take j ++ [u.2.1.getD (p + j) 0] = t.2.1 ++ (u.2.1.drop p).take (j + 1) := by
        rw [List.append_assoc, List.take_add_one, List.getElem?_drop]
        congr 2
        unfold List.getD
        rw [List.getElem?_eq_getElem (show p + j < u.2.1.length by omega)]
        rfl
      rw [e9] at w2
      obtain ⟨I', x1, x2, x3⟩ := ih (j + 1) J2 (by omega) w2 (g.trans g2)
      refine ⟨I', (aw_wh_in ?_).trans x1, x2, x3⟩
      dsimp only
      rw [if_neg (nI_ge (by omega) (by omega)), mg_5 hP, Option.bind_some, nI_add, Nat.add_assoc, ma_215 (by omega), Option.bind_some, huJ, mM_ob, Option.bind_some, e2, Option.bind_some, nI_1]
  refine key len 0 I (Nat.zero_add _) ?_ mfr.rfl
  rw [List.take_zero, List.append_nil]
  exact h
end
