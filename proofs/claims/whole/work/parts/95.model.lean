/-! ===== the reference's order of keys ===== -/
/-- the letter of a key at a place, one more; 0 where it has none -/
def ml (x k p : Nat) : Nat := if p < k then 1 + x / 2 ^ (8 * (k - 1 - p)) % 256 else 0
theorem ml_le (x k p : Nat) : ml x k p ≤ 256 := by
  unfold ml
  split <;> omega
/-- letters as the reference has them -/
def mlI (x k p : Nat) : Int32 := if p < k then nI (x / 2 ^ (8 * (k - 1 - p)) % 256) else -1
theorem mlI_int (x k p : Nat) : (mlI x k p).toInt = (ml x k p : Int) - 1 := by
  unfold mlI ml
  split
  · rw [nI_toInt (by omega)]
    omega
  · decide
theorem ml_lex {x k y l p : Nat} (h1 : 1 ≤ k) (h4 : k ≤ 4) (hx : x < 2 ^ (8 * k)) (g1 : 1 ≤ l) (g4 : l ≤ 4) (hy : y < 2 ^ (8 * l)) (hp : p < 4) (he : ∀ q, q < p → ml x k q = ml y l q) (hne : ml x k p ≠ ml y l p) : ml x k p < ml y l p ↔ pn_rank k x < pn_rank l y := by
  have e0 := fun h => he 0 h
  have e1 := fun h => he 1 h
  have e2 := fun h => he 2 h
  clear he
  unfold ml at hne e0 e1 e2 ⊢
  unfold pn_rank
  rcases (show k = 1 ∨ k = 2 ∨ k = 3 ∨ k = 4 by omega) with rfl | rfl | rfl | rfl <;> rcases (show l = 1 ∨ l = 2 ∨ l = 3 ∨ l = 4 by omega) with rfl | rfl | rfl | rfl <;> rcases (show p = 0 ∨ p = 1 ∨ p = 2 ∨ p = 3 by omega) with rfl | rfl | rfl | rfl <;> simp at hne e0 e1 e2 hx hy ⊢ <;> omega
theorem ml_eq {x k y l : Nat} (h1 : 1 ≤ k) (h4 : k ≤ 4) (hx : x < 2 ^ (8 * k)) (g1 : 1 ≤ l) (g4 : l ≤ 4) (hy : y < 2 ^ (8 * l)) (he : ∀ q, q < 4 → ml x k q = ml y l q) : pn_rank k x = pn_rank l y := by
  have e0 := he 0 (by decide)
  have e1 := he 1 (by decide)
  have e2 := he 2 (by decide)
  have e3 := he 3 (by decide)
  clear he
  unfold ml at e0 e1 e2 e3
  unfold pn_rank
  rcases (show k = 1 ∨ k = 2 ∨ k = 3 ∨ k = 4 by omega) with rfl | rfl | rfl | rfl <;> rcases (show l = 1 ∨ l = 2 ∨ l = 3 ∨ l = 4 by omega) with rfl | rfl | rfl | rfl <;> simp at e0 e1 e2 e3 hx hy ⊢ <;> omega
theorem mlI_eq (x k y l p : Nat) : mlI x k p = mlI y l p ↔ ml x k p = ml y l p := by
  rw [← Int32.toInt_inj, mlI_int, mlI_int]
  omega
theorem mlI_le (x k y l p : Nat) : mlI x k p ≤ mlI y l p ↔ ml x k p ≤ ml y l p := by
  rw [Int32.le_iff_toInt_le, mlI_int, mlI_int]
  omega
/-- how many entries among the first n stand before the rank r -/
def mcn (E : qE) (r : Nat) : Nat → Nat
  | 0 => 0
  | j + 1 => mcn E r j + if pn_rank (E j).2.1 (E j).1 < r then 1 else 0
theorem mcn_le (E : qE) (r : Nat) : ∀ n, mcn E r n ≤ n
  | 0 => Nat.le_refl _
  | n + 1 => by
    have := mcn_le E r n
    unfold mcn
    split <;> omega
theorem mcn_count (E : qE) (r : Nat) : ∀ n, mcn E r n = ((List.range n).map (fun j => pn_rank (E j).2.1 (E j).1)).countP (fun x => decide (x < r))
  | 0 => rfl
  | n + 1 => by
    rw [mcn, mcn_count E r n, List.range_succ, List.map_append, List.countP_append]
    congr 1
    simp [List.countP_cons]
theorem dS_count : ∀ {D : List (Nat × Nat × Nat)} {p : Nat} {e : Nat × Nat × Nat}, dS D → D[p]? = some e → (D.map Prod.fst).countP (fun x => decide (x < e.1)) = p
  | [], p, e, _, h => by cases h
  | q :: t, p, e, hs, h => by
    have hs' := List.pairwise_cons.mp hs
    rw [List.map_cons, List.countP_cons]
    cases p with
    | zero =>
      cases h
      have h0 : (t.map Prod.fst).countP (fun x => decide (x < q.1)) = 0 := by
        rw [List.countP_eq_zero]
        intro x hx
        obtain ⟨y, hy, rfl⟩ := List.mem_map.mp hx
        have := hs'.1 y hy
        simp
        omega
      rw [h0]
      simp
    | succ p =>
      have h' : t[p]? = some e := h
      have := hs'.1 e (List.mem_of_getElem? h')
      rw [dS_count hs'.2 h', if_pos (decide_eq_true this)]
section
variable {I I' : mN} {L L' : mL} {ρ : mQ} {s : Option Nat} {b n : Nat} {E : qE} {nm : Nat → Nat} {D : List (Nat × Nat × Nat)}
theorem dR.perm (h : dR nm n E D) (hs : dS D) : ((List.range n).map (fun j => pn_rank (E j).2.1 (E j).1)).Perm (D.map Prod.fst) := by
  obtain ⟨r1, r2, r3, r4, r5⟩ := h
  have nd2 : (D.map Prod.fst).Nodup := by
    rw [List.nodup_iff_pairwise_ne, List.pairwise_map]
    exact hs.imp (fun h => by omega)
  have nd1 : ((List.range n).map (fun j => pn_rank (E j).2.1 (E j).1)).Nodup := by
    rw [List.nodup_iff_pairwise_ne, List.pairwise_map]
    refine List.Pairwise.imp_of_mem ?_ (List.pairwise_lt_range (n := n))
    intro a c ha hc hlt he
    have := r5 a c (List.mem_range.mp ha) (List.mem_range.mp hc) he
    omega
  refine (List.perm_ext_iff_of_nodup nd1 nd2).mpr fun x => ⟨fun hx => ?_, fun hx => ?_⟩
  · obtain ⟨j, hj, rfl⟩ := List.mem_map.mp hx
    obtain ⟨e, he, a1, -⟩ := r4 j (List.mem_range.mp hj)
    rw [a1]
    exact List.mem_map_of_mem he
  · obtain ⟨e, he, rfl⟩ := List.mem_map.mp hx
    obtain ⟨j, hj, a1, -⟩ := r3 e he
    rw [← a1]
    exact List.mem_map_of_mem (f := fun j => pn_rank (E j).2.1 (E j).1) (List.mem_range.mpr hj)
/-- the place of an entry in the order -/
theorem dR.place (h : dR nm n E D) (hs : dS D) {p : Nat} {e : Nat × Nat × Nat} (he : D[p]? = some e) : mcn E e.1 n = p := by
  rw [mcn_count, (h.perm hs).countP_eq]
  exact dS_count hs he
theorem M_letter (hP : mP b ρ) (hd : mDir I L b n E) {j p : Nat} (hj : j < n) (h1 : 1 ≤ (E j).2.1) (h4 : (E j).2.1 ≤ 4) (hp : p < 4) : f_M_letter (s, pw_lay (pw_σ b) (I, L, ρ)) (some (b + 211)) (nI j) (nI p) = some (mlI (E j).1 (E j).2.1 p) := by
  obtain ⟨d1, d2, d3⟩ := hd
  obtain ⟨q1, q2, q3, q4, q5, q6, q7, q8⟩ := d3 j hj
  unfold f_M_letter mlI
  rw [mg_17 hP, Option.bind_some, ma_226 (by omega), Option.bind_some, q2]
  by_cases c : p < (E j).2.1
  · have e9 : ∀ a : Fin 5, ∀ c : Fin 4, c.val < a.val → (8 : Int32) * ((nI a.val - 1) - nI c.val) = 8 * nI (a.val - 1 - c.val) := by decide +kernel
    rw [if_neg (nI_ge c (by omega)), mg_16 hP, Option.bind_some, ma_225 (by omega), Option.bind_some, q1, Option.bind_some, ma_226 (by omega), Option.bind_some, q2, e9 ⟨(E j).2.1, by omega⟩ ⟨p, hp⟩ c, by_mod32 _ (by omega), pn_by_lN (by omega), if_pos c]
    rfl
  · rw [if_pos (nI_le (by omega) (by omega)), if_neg c]
    rfl
theorem M_before (hP : mP b ρ) (hd : mDir I L b n E) (hr : dR nm n E D) {i j : Nat} (hi : i < n) (hj : j < n) : f_M_comesBefore (s, pw_lay (pw_σ b) (I, L, ρ)) (some (b + 211)) (nI j) (nI i) = some (if pn_rank (E j).2.1 (E j).1 < pn_rank (E i).2.1 (E i).1 then 1 else 0) := by
  obtain ⟨j1, j4, jx⟩ := hr.2.1 j hj
  obtain ⟨i1, i4, ix⟩ := hr.2.1 i hi
  unfold f_M_comesBefore
  refine pw_loopG (G := fun x => x = some (if pn_rank (E j).2.1 (E j).1 < pn_rank (E i).2.1 (E i).1 then 1 else 0)) 4
    (fun m a => ∃ p, a = nI p ∧ m + p = 4 ∧ ∀ q, q < p → ml (E j).1 (E j).2.1 q = ml (E i).1 (E i).2.1 q)
    (fun r => match r with
      | .inl _ => ∀ q, q < 4 → ml (E j).1 (E j).2.1 q = ml (E i).1 (E i).2.1 q
      | .inr c => c = if pn_rank (E j).2.1 (E j).1 < pn_rank (E i).2.1 (E i).1 then 1 else 0) ⟨0, rfl, rfl, fun q hq => absurd hq (Nat.not_lt_zero _)⟩ ?_ ?_
  · rintro m a ⟨p, rfl, hm, he⟩
    by_cases c : p = 4
    · right
      refine ⟨_, if_pos (by rw [c]; decide), ?_⟩
      rw [c] at he
      exact he
    · have hp : p < 4 := by omega
      rw [if_neg (show ¬ (4 : Int32) ≤ nI p from nI_ge (b := 4) hp (by decide)), mM_ob, Option.bind_some, M_letter hP hd hj j1 j4 hp, Option.bind_some, Option.bind_some, M_letter hP hd hi i1 i4 hp, Option.bind_some]
      by_cases ce : ml (E j).1 (E j).2.1 p = ml (E i).1 (E i).2.1 p
      · left
        refine ⟨m - 1, nI (p + 1), by omega, ?_, p + 1, rfl, by omega, fun q hq => ?_⟩
        · rw [if_pos ((mlI_eq _ _ _ _ _).mpr ce), nI_1]
        · by_cases cq : q = p
          · rw [cq]; exact ce
          · exact he q (by omega)
      · right
        have hl := ml_lex j1 j4 jx i1 i4 ix hp he ce
        rw [if_neg (fun hc => ce ((mlI_eq _ _ _ _ _).mp hc)), Option.bind_some, Option.bind_some, Option.bind_some, Option.bind_some]
        by_cases cl : ml (E i).1 (E i).2.1 p ≤ ml (E j).1 (E j).2.1 p
        · rw [if_pos ((mlI_le _ _ _ _ _).mpr cl), Option.bind_some, aw_zz_0]
          refine ⟨_, rfl, ?_⟩
          show (0 : Int32) = _
          rw [if_neg (fun hc => by have := hl.mpr hc; omega)]
        · rw [if_neg (fun hc => cl ((mlI_le _ _ _ _ _).mp hc)), Option.bind_some, aw_zz_1]
          refine ⟨_, rfl, ?_⟩
          show (1 : Int32) = _
          rw [if_pos (hl.mp (by omega))]
  · intro r hr'
    cases r with
    | inl a =>
      have := ml_eq j1 j4 jx i1 i4 ix hr'
      show some (0 : Int32) = _
      rw [if_neg (by omega)]
    | inr c =>
      show some c = _
      rw [show c = _ from hr']
theorem M_ordered (hP : mP b ρ) (hd : mDir I L b n E) (hr : dR nm n E D) (hs : dS D) {p i : Nat} {e : Nat × Nat × Nat} (he : D[p]? = some e) (hi : i < n) (hie : pn_rank (E i).2.1 (E i).1 = e.1) : f_M_ordered (s, pw_lay (pw_σ b) (I, L, ρ)) (some (b + 211)) (nI p) = some (nI i) := by
  obtain ⟨d1, d2, d3⟩ := hd
  have hp : p < D.length := (List.getElem?_eq_some_iff.mp he).1
  have inner : ∀ a, a < n → aw_wh (σ := Int32 × Int32) (τ := Int32 × Int32) (fun s3 =>
        (aw_gI (s, pw_lay (pw_σ b) (I, L, ρ)) (some (b + 211)) 7 15).bind fun v4 =>
        if v4 ≤ s3.2 then
          some (.inr (s3.1, s3.2))
        else
          (aw_obj (s, pw_lay (pw_σ b) (I, L, ρ)) (some (b + 211)) 7).bind fun v5 =>
          (f_M_comesBefore (s, pw_lay (pw_σ b) (I, L, ρ)) (some (b + 211)) s3.2 (nI a)).bind fun v6 =>
          (if v6 = 0 then
              some s3.1
            else
              some (s3.1 + (1 : Int32)) : Option (Int32)).bind fun j7 =>
          some (.inl (j7, s3.2 + 1))) ((0 : Int32), (0 : Int32)) = some (nI (mcn E (pn_rank (E a).2.1 (E a).1) n), nI n) := by
    intro a ha
    refine aw_wh_run n (fun j => (nI (mcn E (pn_rank (E a).2.1 (E a).1) j), nI j)) (fun j hj => ?_) ?_
    · dsimp only
      rw [mf_15, Option.bind_some, d1, if_neg (nI_ge hj (by omega)), mM_ob, Option.bind_some, M_before hP ⟨d1, d2, d3⟩ hr ha hj, Option.bind_some]
      by_cases c : pn_rank (E j).2.1 (E j).1 < pn_rank (E a).2.1 (E a).1
      · rw [if_pos c, if_neg (by decide), Option.bind_some, nI_1, nI_1, mcn, if_pos c]
      · rw [if_neg c, if_pos rfl, Option.bind_some, nI_1, mcn, if_neg c]
        rfl
    · dsimp only
      rw [mf_15, Option.bind_some, d1, if_pos (nI_le (Nat.le_refl _) (by omega))]
  have hcnt : ∀ a, a < n → (mcn E (pn_rank (E a).2.1 (E a).1) n = p ↔ a = i) := fun a ha => by
    constructor
    · intro h
      obtain ⟨e', he', a1, -⟩ := hr.2.2.2.1 a ha
      obtain ⟨p', hp', e2⟩ := List.mem_iff_getElem.mp he'
      have h3 : D[p']? = some e' := by rw [List.getElem?_eq_getElem hp', e2]
      have h4 := hr.place hs h3
      rw [← a1, h] at h4
      rw [← h4, he] at h3
      cases h3
      exact hr.2.2.2.2 a i ha hi (by rw [a1, hie])
    · intro h
      rw [h, hie]
      exact hr.place hs he
  unfold f_M_ordered
  refine (pw_loop (.inr (nI i)) i (fun a => nI a) rfl (fun a ha => ?_) ?_).trans rfl
  · try dsimp only
    have := mcn_le E (pn_rank (E a).2.1 (E a).1) n
    rw [mf_15, Option.bind_some, d1, if_neg (nI_ge (by omega) (by omega))]
    have hin := inner a (by omega)
    rw [mf_15, d1] at hin
    rw [hin, Option.bind_some]
    dsimp only
    rw [if_neg (fun hc => by
      have h9 := (hcnt a (by omega)).mp ((nI_eq (by omega) (by have := hr.1; omega)).mp hc)
      omega), nI_1]
  · try dsimp only
    rw [mf_15, Option.bind_some, d1, if_neg (nI_ge hi (by omega))]
    have hin := inner i hi
    rw [mf_15, d1] at hin
    rw [hin, Option.bind_some]
    dsimp only
    rw [if_pos (by rw [(hcnt i hi).mpr rfl])]
end
