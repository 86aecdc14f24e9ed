/-! ===== the reference copies a row ===== -/
/-- n cells of the array at a are copied from x to y -/
def ucp (I : mN) (a x y n : Nat) : mN := fun c k => if c = a ∧ y ≤ k ∧ k < y + n then I a (x + (k - y)) else I c k
theorem ucp_0 (I : mN) (a x y : Nat) : ucp I a x y 0 = I := by
  funext c k
  exact if_neg (by omega)
theorem ucp_s (I : mN) {a x y n : Nat} (h : x + n < y ∨ y + n < x ∨ (n < x ∧ y + n ≤ x)) : uI (ucp I a x y n) a (y + n) (I a (x + n)) = ucp I a x y (n + 1) := by
  funext c k
  unfold uI ucp
  by_cases h1 : c = a ∧ k = y + n
  · rw [if_pos h1, if_pos ⟨h1.1, by omega, by omega⟩, h1.2, Nat.add_sub_cancel_left]
  · rw [if_neg h1]
    by_cases h2 : c = a ∧ y ≤ k ∧ k < y + n
    · rw [if_pos h2, if_pos ⟨h2.1, h2.2.1, by omega⟩]
    · rw [if_neg h2, if_neg (fun hc => h2 ⟨hc.1, hc.2.1, by
        have := hc.2.2
        have h3 : ¬ k = y + n := fun h => h1 ⟨hc.1, h⟩
        omega⟩)]
theorem ucp_off {I : mN} {a x y n c k : Nat} (h : ¬ (c = a ∧ y ≤ k ∧ k < y + n)) : ucp I a x y n c k = I c k := if_neg h
theorem ucp_in {I : mN} {a x y n j : Nat} (h : j < n) : ucp I a x y n a (y + j) = I a (x + j) := by
  unfold ucp
  rw [if_pos ⟨rfl, by omega, by omega⟩, Nat.add_sub_cancel_left]
section
variable {I I' : mN} {L L' : mL} {ρ : mQ} {s : Option Nat} {b x y : Nat} {t : qf}
theorem M_copyRow (hP : mP b ρ) (h : mW I b x t) (hz : mZ t) (hx : x < 12) (hy : y < 12) (hxy : x ≠ y) :
    ∃ I', f_M_copyRow (s, pw_lay (pw_σ b) (I, L, ρ)) (some (b + 211)) (nI x) (nI y) = some (s, pw_lay (pw_σ b) (I', L, ρ)) ∧ mW I' b y t ∧ I' (b + 212) y = I (b + 212) x ∧ mfr I I' (fun a k => mC b y a k ∧ a ≠ b + 223 ∧ a ≠ b + 224) := by
  have hzz : aw_zz (I (b + 216) x) = some () := by
    rw [h.2.2.2.1]
    split
    · exact aw_zz_0
    · exact aw_zz_1
  -- the six small ones
  generalize hJ : uI (uI (uI (uI (uI (uI I (b + 212) y (I (b + 212) x)) (b + 213) y (I (b + 213) x)) (b + 214) y (I (b + 214) x)) (b + 216) y (I (b + 216) x)) (b + 217) y (I (b + 217) x)) (b + 219) y (I (b + 219) x) = J
  have Jo : ∀ a k, a = b + 215 ∨ a = b + 218 ∨ a = b + 220 ∨ a = b + 221 ∨ a = b + 222 → J a k = I a k := fun a k ha => by
    rw [← hJ, uI_ne (by omega), uI_ne (by omega), uI_ne (by omega), uI_ne (by omega), uI_ne (by omega), uI_ne (by omega)]
  have Js : J (b + 212) y = I (b + 212) x ∧ J (b + 213) y = I (b + 213) x ∧ J (b + 214) y = I (b + 214) x ∧ J (b + 216) y = I (b + 216) x ∧ J (b + 217) y = I (b + 217) x ∧ J (b + 219) y = I (b + 219) x := by
    rw [← hJ]
    refine ⟨?_, ?_, ?_, ?_, ?_, uI_at⟩
    · rw [uI_ne (by omega), uI_ne (by omega), uI_ne (by omega), uI_ne (by omega), uI_ne (by omega), uI_at]
    · rw [uI_ne (by omega), uI_ne (by omega), uI_ne (by omega), uI_ne (by omega), uI_at]
    · rw [uI_ne (by omega), uI_ne (by omega), uI_ne (by omega), uI_at]
    · rw [uI_ne (by omega), uI_ne (by omega), uI_at]
    · rw [uI_ne (by omega), uI_at]
  have Jf : mfr I J (fun a k => mC b y a k ∧ a ≠ b + 223 ∧ a ≠ b + 224) := by
    rw [← hJ]
    exact (((((mfr.uI ⟨Or.inl ⟨by omega, rfl⟩, by omega, by omega⟩).trans (mfr.uI ⟨Or.inl ⟨by omega, rfl⟩, by omega, by omega⟩)).trans (mfr.uI ⟨Or.inl ⟨by omega, rfl⟩, by omega, by omega⟩)).trans (mfr.uI ⟨Or.inl ⟨by omega, rfl⟩, by omega, by omega⟩)).trans (mfr.uI ⟨Or.inl ⟨by omega, rfl⟩, by omega, by omega⟩)).trans (mfr.uI ⟨Or.inl ⟨by omega, rfl⟩, by omega, by omega⟩)
  generalize hK1 : ucp J (b + 215) (100 * x) (100 * y) 100 = K1
  generalize hK2 : ucp K1 (b + 218) (120 * x) (120 * y) 120 = K2
  generalize hK3 : ucp (ucp (ucp K2 (b + 220) (12 * x) (12 * y) 12) (b + 221) (12 * x) (12 * y) 12) (b + 222) (12 * x) (12 * y) 12 = K3
  have head : f_M_copyRow (s, pw_lay (pw_σ b) (I, L, ρ)) (some (b + 211)) (nI x) (nI y) = some (s, pw_lay (pw_σ b) (K3, L, ρ)) := by
    unfold f_M_copyRow
    rw [mg_2 hP, Option.bind_some, Option.bind_some, ma_212 hx, Option.bind_some, ms_212 hy, Option.bind_some, mg_3 hP, Option.bind_some, Option.bind_some, ma_213 hx, Option.bind_some, ms_213 hy, Option.bind_some, mg_4 hP, Option.bind_some, Option.bind_some, ma_214 hx, Option.bind_some, ms_214 hy, Option.bind_some, mg_6 hP, Option.bind_some, Option.bind_some, ma_216 hx, Option.bind_some, uI_ne (by omega), uI_ne (by omega), uI_ne (by omega), hzz, Option.bind_some, ms_216 hy, Option.bind_some, mg_7 hP, Option.bind_some, Option.bind_some, ma_217 hx, Option.bind_some, ms_217 hy, Option.bind_some, mg_9 hP, Option.bind_some, Option.bind_some, ma_219 hx, Option.bind_some, ms_219 hy, Option.bind_some]
    rw [show uI (uI I (b + 212) y (I (b + 212) x)) (b + 213) y (uI I (b + 212) y (I (b + 212) x) (b + 213) x) = uI (uI I (b + 212) y (I (b + 212) x)) (b + 213) y (I (b + 213) x) by rw [uI_ne (by omega)]]
    rw [uI_ne (show ¬ (b + 214 = b + 213 ∧ x = y) by omega), uI_ne (show ¬ (b + 214 = b + 212 ∧ x = y) by omega)]
    rw [uI_ne (show ¬ (b + 217 = b + 216 ∧ x = y) by omega), uI_ne (show ¬ (b + 217 = b + 214 ∧ x = y) by omega), uI_ne (show ¬ (b + 217 = b + 213 ∧ x = y) by omega), uI_ne (show ¬ (b + 217 = b + 212 ∧ x = y) by omega)]
    rw [uI_ne (show ¬ (b + 219 = b + 217 ∧ x = y) by omega), uI_ne (show ¬ (b + 219 = b + 216 ∧ x = y) by omega), uI_ne (show ¬ (b + 219 = b + 214 ∧ x = y) by omega), uI_ne (show ¬ (b + 219 = b + 213 ∧ x = y) by omega), uI_ne (show ¬ (b + 219 = b + 212 ∧ x = y) by omega), hJ]
    refine (pw_loop (nI 100, (s, pw_lay (pw_σ b) (K1, L, ρ))) 100 (fun j => (nI j, (s, pw_lay (pw_σ b) (ucp J (b + 215) (100 * x) (100 * y) j, L, ρ)))) (by rw [ucp_0]; rfl) (fun j hj => ?_) ?_).trans ?_
    · dsimp only
      rw [if_neg (show ¬ (100 : Int32) ≤ nI j from nI_ge (b := 100) hj (by decide)), mg_5 hP, Option.bind_some, Option.bind_some, nI_100, ma_215 (by omega), Option.bind_some, nI_100, ms_215 (by omega), Option.bind_some, nI_1, ucp_off (by omega), ucp_s J (by omega)]
    · dsimp only
      rw [if_pos (show (100 : Int32) ≤ nI 100 by decide), hK1]
    dsimp only
    refine (pw_loop (nI 120, (s, pw_lay (pw_σ b) (K2, L, ρ))) 120 (fun j => (nI j, (s, pw_lay (pw_σ b) (ucp K1 (b + 218) (120 * x) (120 * y) j, L, ρ)))) (by rw [ucp_0]; rfl) (fun j hj => ?_) ?_).trans ?_
    · dsimp only
      rw [if_neg (show ¬ (120 : Int32) ≤ nI j from nI_ge (b := 120) hj (by decide)), mg_8 hP, Option.bind_some, Option.bind_some, nI_120, nI_add, ma_218 (by omega), Option.bind_some, nI_120, nI_add, ms_218 (by omega), Option.bind_some, nI_1, ucp_off (by omega), ucp_s K1 (by omega)]
    · dsimp only
      rw [if_pos (show (120 : Int32) ≤ nI 120 by decide), hK2]
    dsimp only
    refine (pw_loop (nI 12, (s, pw_lay (pw_σ b) (K3, L, ρ))) 12 (fun j => (nI j, (s, pw_lay (pw_σ b) (ucp (ucp (ucp K2 (b + 220) (12 * x) (12 * y) j) (b + 221) (12 * x) (12 * y) j) (b + 222) (12 * x) (12 * y) j, L, ρ)))) (by rw [ucp_0, ucp_0, ucp_0]; rfl) (fun j hj => ?_) ?_).trans rfl
    · have com : ∀ (K : mN) (a a' n k : Nat) (v : Int32), a ≠ a' → uI (ucp K a (12 * x) (12 * y) n) a' k v = ucp (uI K a' k v) a (12 * x) (12 * y) n := fun K a a' n k v hne => by
        funext c q
        unfold uI ucp
        dsimp only
        by_cases h1 : c = a' ∧ q = k
        · rw [if_pos h1, if_neg (by omega), if_pos h1]
        · rw [if_neg h1]
          by_cases h2 : c = a ∧ 12 * y ≤ q ∧ q < 12 * y + n
          · rw [if_pos h2, if_pos h2]
            rw [if_neg (by omega)]
          · rw [if_neg h2, if_neg h2, if_neg h1]
      dsimp only
      rw [if_neg (show ¬ (12 : Int32) ≤ nI j from nI_ge (b := 12) hj (by decide)), mg_10 hP, Option.bind_some, Option.bind_some, nI_12, ma_220 (by omega), Option.bind_some, nI_12, ms_220 (by omega), Option.bind_some, mg_11 hP, Option.bind_some, Option.bind_some, ma_221 (by omega), Option.bind_some, ms_221 (by omega), Option.bind_some, mg_12 hP, Option.bind_some, Option.bind_some, ma_222 (by omega), Option.bind_some, ms_222 (by omega), Option.bind_some, nI_1]
      have r1 : ucp (ucp (ucp K2 (b + 220) (12 * x) (12 * y) j) (b + 221) (12 * x) (12 * y) j) (b + 222) (12 * x) (12 * y) j (b + 220) (12 * x + j) = K2 (b + 220) (12 * x + j) := by rw [ucp_off (by omega), ucp_off (by omega), ucp_off (by omega)]
      have r2 : ∀ v, uI (ucp (ucp (ucp K2 (b + 220) (12 * x) (12 * y) j) (b + 221) (12 * x) (12 * y) j) (b + 222) (12 * x) (12 * y) j) (b + 220) (12 * y + j) v (b + 221) (12 * x + j) = ucp K2 (b + 220) (12 * x) (12 * y) (j + 1) (b + 221) (12 * x + j) := fun v => by rw [uI_ne (by omega), ucp_off (by omega), ucp_off (by omega), ucp_off (by omega), ucp_off (by omega)]
      have r3 : ∀ v v', uI (uI (ucp (ucp (ucp K2 (b + 220) (12 * x) (12 * y) j) (b + 221) (12 * x) (12 * y) j) (b + 222) (12 * x) (12 * y) j) (b + 220) (12 * y + j) v) (b + 221) (12 * y + j) v' (b + 222) (12 * x + j) = ucp (ucp K2 (b + 220) (12 * x) (12 * y) (j + 1)) (b + 221) (12 * x) (12 * y) (j + 1) (b + 222) (12 * x + j) := fun v v' => by rw [uI_ne (by omega), uI_ne (by omega), ucp_off (by omega), ucp_off (by omega), ucp_off (by omega), ucp_off (by omega), ucp_off (by omega)]
      rw [r3, r2, r1, com _ (b + 222) (b + 220) _ _ _ (by omega), com _ (b + 222) (b + 221) _ _ _ (by omega), com _ (b + 221) (b + 220) _ _ _ (by omega), ucp_s K2 (a := b + 220) (by omega), ucp_s _ (a := b + 221) (by omega), ucp_s _ (a := b + 222) (by omega)]
    · dsimp only
      rw [if_pos (show (12 : Int32) ≤ nI 12 by decide), hK3]
  have K1o : ∀ a k, a ≠ b + 215 → K1 a k = J a k := fun a k ha => by rw [← hK1]; exact ucp_off (by omega)
  have K2o : ∀ a k, a ≠ b + 218 → K2 a k = K1 a k := fun a k ha => by rw [← hK2]; exact ucp_off (by omega)
  have K3o : ∀ a k, a ≠ b + 220 → a ≠ b + 221 → a ≠ b + 222 → K3 a k = K2 a k := fun a k h1 h2 h3 => by rw [← hK3, ucp_off (by omega), ucp_off (by omega), ucp_off (by omega)]
  have small : ∀ a, (a = b + 212 ∨ a = b + 213 ∨ a = b + 214 ∨ a = b + 216 ∨ a = b + 217 ∨ a = b + 219) → K3 a y = J a y := fun a ha => by rw [K3o _ _ (by omega) (by omega) (by omega), K2o _ _ (by omega), K1o _ _ (by omega)]
  have cb : ∀ j, j < 100 → K3 (b + 215) (100 * y + j) = I (b + 215) (100 * x + j) := fun j hj => by
    rw [K3o _ _ (by omega) (by omega) (by omega), K2o _ _ (by omega), ← hK1, ucp_in hj, Jo _ _ (by omega)]
  have ch : ∀ j, j < 120 → K3 (b + 218) (120 * y + j) = I (b + 218) (120 * x + j) := fun j hj => by
    rw [K3o _ _ (by omega) (by omega) (by omega), ← hK2, ucp_in hj, K1o _ _ (by omega), Jo _ _ (by omega)]
  have K2r : ∀ a k, a = b + 220 ∨ a = b + 221 ∨ a = b + 222 → K2 a k = I a k := fun a k ha => by rw [K2o _ _ (by omega), K1o _ _ (by omega), Jo _ _ (by omega)]
  have cr : ∀ j, j < 12 → K3 (b + 220) (12 * y + j) = I (b + 220) (12 * x + j) ∧ K3 (b + 221) (12 * y + j) = I (b + 221) (12 * x + j) ∧ K3 (b + 222) (12 * y + j) = I (b + 222) (12 * x + j) := fun j hj => by
    rw [← hK3]
    refine ⟨?_, ?_, ?_⟩
    · rw [ucp_off (by omega), ucp_off (by omega), ucp_in hj, K2r _ _ (by omega)]
    · rw [ucp_off (by omega), ucp_in hj, ucp_off (by omega), K2r _ _ (by omega)]
    · rw [ucp_in hj, ucp_off (by omega), ucp_off (by omega), K2r _ _ (by omega)]
  obtain ⟨j1, j2, j3, j4, j5, j6⟩ := Js
  obtain ⟨h1, h2, h3, h4, h5, h6, h7, h8⟩ := h
  obtain ⟨z1, z2, z3⟩ := hz
  refine ⟨K3, head, ⟨?_, ?_, fun j hj => ?_, ?_, fun hn => ?_, fun j hj => ?_, ?_, fun j r hr => ?_⟩, ?_, ?_⟩
  · rw [small _ (by omega), j2]; exact h1
  · rw [small _ (by omega), j3]; exact h2
  · rw [cb j (by omega)]; exact h3 j hj
  · rw [small _ (by omega), j4]; exact h4
  · rw [small _ (by omega), j5]; exact h5 hn
  · rw [ch j (by omega)]; exact h6 j hj
  · rw [small _ (by omega), j6]; exact h7
  · have hj := (List.getElem?_eq_some_iff.mp hr).1
    obtain ⟨c1, c2, c3⟩ := cr j (by omega)
    rw [c1, c2, c3]
    exact h8 j r hr
  · rw [small _ (by omega)]; exact j1
  · refine Jf.trans (fun a k hk => ?_)
    rw [← hK3, ucp_off (fun hc => hk ⟨Or.inr (Or.inr (Or.inr ⟨by omega, by omega, by omega⟩)), by omega, by omega⟩), ucp_off (fun hc => hk ⟨Or.inr (Or.inr (Or.inr ⟨by omega, by omega, by omega⟩)), by omega, by omega⟩), ucp_off (fun hc => hk ⟨Or.inr (Or.inr (Or.inr ⟨by omega, by omega, by omega⟩)), by omega, by omega⟩), ← hK2, ucp_off (fun hc => hk ⟨Or.inr (Or.inr (Or.inl ⟨by omega, by omega, by omega⟩)), by omega, by omega⟩), ← hK1, ucp_off (fun hc => hk ⟨Or.inr (Or.inl ⟨by omega, by omega, by omega⟩), by omega, by omega⟩)]
end
