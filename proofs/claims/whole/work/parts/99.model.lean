/-! ===== the reference's live bytes ===== -/
def mlv (E : qE) (fn : Nat) (len : Nat → Nat) : Nat → Nat
  | 0 => 0
  | j + 1 => mlv E fn len j + if (E j).2.2.1 = fn then len (E j).2.2.2 else 0
theorem mlv_sum (E : qE) (fn : Nat) (len : Nat → Nat) : ∀ n, mlv E fn len n = ((((List.range n).filter (fun j => decide ((E j).2.2.1 = fn))).map (fun j => (E j).2.2.2)).map len).sum
  | 0 => rfl
  | n + 1 => by
    rw [mlv, mlv_sum E fn len n, List.range_succ, List.filter_append, List.map_append, List.map_append, List.sum_append]
    congr 1
    by_cases c : (E n).2.2.1 = fn
    · rw [if_pos c]
      simp [c]
    · rw [if_neg c]
      simp [c]
theorem getD_of {l : List qr} {i : Nat} {r : qr} (h : l[i]? = some r) : l.getD i (0, 0, 0, 0) = r := by
  unfold List.getD
  rw [h]
  rfl
/-- the length of a record of the file t -/
def pk_ln (t : qf) (i : Nat) : Nat := pn_len (t.2.2.2.2.getD i (0, 0, 0, 0)).2.1 (t.2.2.2.2.getD i (0, 0, 0, 0)).2.2.2
theorem lvn_sum (φ : Nat → qf) (D : List (Nat × Nat × Nat)) (f : Nat) : ∀ n, pk_lvn φ D f n = (((List.range n).filter (fun i => decide (pe_find (pn_rk (φ f) i) D = some (f, i)))).map (pk_ln (φ f))).sum
  | 0 => rfl
  | n + 1 => by
    rw [pk_lvn, lvn_sum φ D f n, List.range_succ, List.filter_append, List.map_append, List.sum_append]
    congr 1
    by_cases c : pe_find (pn_rk (φ f) n) D = some (f, n)
    · have c' := c
      unfold pn_rk at c'
      rw [if_pos c']
      simp [c, pk_ln]
    · have c' := c
      unfold pn_rk at c'
      rw [if_neg c']
      simp [c]
section
variable {I I' : mN} {L L' : mL} {ρ : mQ} {s : Option Nat} {b n : Nat} {E : qE} {φ φ' : Nat → qf} {sl : List Nat} {cnt : Nat} {act : Bool} {last time : Nat} {cl : Bool} {D : List (Nat × Nat × Nat)} {ou : List Nat} {made taken af ar : Nat} {src : Nat → Nat → Nat × Nat}
theorem lv_eq (hr : dR (fun f => (φ f).1) n E D) (hs : dS D) (hnum : pk_nums φ sl cnt) {i : Nat} (hi : i < cnt) (ok : ∀ e ∈ D, ∃ j r, j < cnt ∧ e.2.1 = sl.getD j 0 ∧ (φ e.2.1).2.2.2.2[e.2.2]? = some r ∧ e.1 = pn_rank r.2.1 r.2.2.1) : mlv E (φ (sl.getD i 0)).1 (pk_ln (φ (sl.getD i 0))) n = pk_lvn φ D (sl.getD i 0) (φ (sl.getD i 0)).2.2.2.2.length := by
  rw [mlv_sum, lvn_sum]
  obtain ⟨r1, r2, r3, r4, r5⟩ := hr
  -- an entry of this file
  have key : ∀ j, j < n → (E j).2.2.1 = (φ (sl.getD i 0)).1 → ∃ e ∈ D, pn_rank (E j).2.1 (E j).1 = e.1 ∧ e.2 = (sl.getD i 0, (E j).2.2.2) := fun j hj hf => by
    obtain ⟨e, he, a1, a2, a3⟩ := r4 j hj
    obtain ⟨j', r, b1, b2, -⟩ := ok e he
    have a2' : (E j).2.2.1 = (φ e.2.1).1 := a2
    rw [hf, b2] at a2'
    have := (hnum i hi).2 j' b1 a2'.symm
    refine ⟨e, he, a1, Prod.ext ?_ a3.symm⟩
    rw [b2, this]
  refine perm_sum (List.Perm.map _ ((List.perm_ext_iff_of_nodup ?_ ?_).mpr fun x => ⟨fun hx => ?_, fun hx => ?_⟩))
  · rw [List.nodup_iff_pairwise_ne, List.pairwise_map]
    refine List.Pairwise.imp_of_mem ?_ (List.Pairwise.filter _ (List.pairwise_lt_range (n := n)))
    intro a c ha hc hlt he
    obtain ⟨ha1, ha2⟩ := List.mem_filter.mp ha
    obtain ⟨hc1, hc2⟩ := List.mem_filter.mp hc
    obtain ⟨e, he1, x1, x2⟩ := key a (List.mem_range.mp ha1) (by simpa using ha2)
    obtain ⟨e', he2, y1, y2⟩ := key c (List.mem_range.mp hc1) (by simpa using hc2)
    obtain ⟨-, r, -, b2, b3, b4⟩ := ok e he1
    obtain ⟨-, r', -, d2, d3, d4⟩ := ok e' he2
    have hee : e.2 = e'.2 := by rw [x2, y2, he]
    rw [hee] at b3
    rw [b3] at d3
    cases d3
    have := r5 a c (List.mem_range.mp ha1) (List.mem_range.mp hc1) (by rw [x1, y1, b4, d4])
    omega
  · rw [List.nodup_iff_pairwise_ne]
    exact (List.Pairwise.filter _ (List.pairwise_lt_range (n := _))).imp (fun h => by omega)
  · obtain ⟨j, hj, rfl⟩ := List.mem_map.mp hx
    obtain ⟨hj1, hj2⟩ := List.mem_filter.mp hj
    obtain ⟨e, he, x1, x2⟩ := key j (List.mem_range.mp hj1) (by simpa using hj2)
    obtain ⟨-, r, -, b2, b3, b4⟩ := ok e he
    rw [x2] at b3
    have hlt : (E j).2.2.2 < (φ (sl.getD i 0)).2.2.2.2.length := (List.getElem?_eq_some_iff.mp b3).1
    refine List.mem_filter.mpr ⟨List.mem_range.mpr hlt, ?_⟩
    have hgd : (φ (sl.getD i 0)).2.2.2.2.getD (E j).2.2.2 (0, 0, 0, 0) = r := getD_of b3
    have : pe_find (pn_rk (φ (sl.getD i 0)) (E j).2.2.2) D = some (sl.getD i 0, (E j).2.2.2) := by
      unfold pn_rk
      rw [hgd, ← b4, ← x2]
      exact pe_find_of hs he
    simpa using this
  · obtain ⟨hx1, hx2⟩ := List.mem_filter.mp hx
    have hp : pe_find (pn_rk (φ (sl.getD i 0)) x) D = some (sl.getD i 0, x) := by simpa using hx2
    obtain ⟨j, hj, a1, a2, a3⟩ := r3 _ (pe_find_in hp)
    exact List.mem_map.mpr ⟨j, List.mem_filter.mpr ⟨List.mem_range.mpr hj, by simpa using a2⟩, a3⟩
theorem M_liveIn (h : MR I L b φ sl cnt act last time cl D ou made taken af ar src) (hP : mP b ρ) (h6 : cnt ≤ 6) (hs : dS D) (hnum : pk_nums φ sl cnt) (hz : ∀ i, i < cnt → mZ (φ (sl.getD i 0)) ∧ ∀ r ∈ (φ (sl.getD i 0)).2.2.2.2, rV r) (ok : ∀ e ∈ D, ∃ j r, j < cnt ∧ e.2.1 = sl.getD j 0 ∧ (φ e.2.1).2.2.2.2[e.2.2]? = some r ∧ e.1 = pn_rank r.2.1 r.2.2.1) {i : Nat} (hi : i < cnt) :
    f_M_liveIn (s, pw_lay (pw_σ b) (I, L, ρ)) (some (b + 211)) (nI i) = some (nI (if cl then 0 else pk_lvn φ D (sl.getD i 0) (φ (sl.getD i 0)).2.2.2.2.length)) := by
  obtain ⟨-, hcl, hF, ⟨n, E, hd, hr⟩, -⟩ := h
  have h66 := hd.2.1
  obtain ⟨w1, w2⟩ := hF i hi
  obtain ⟨hzi, hVi⟩ := hz i hi
  unfold f_M_liveIn
  cases cl with
  | true =>
    have hcl' : I (b + 211) 21 = 1 := hcl
    rw [if_pos rfl]
    by_cases h0 : n = 0
    · refine (pw_loop ((0 : Int32), nI 0) 0 (fun j => ((0 : Int32), nI j)) rfl (fun j hj => absurd hj (Nat.not_lt_zero _)) ?_).trans rfl
      try dsimp only
      rw [mf_15, Option.bind_some, hd.1, h0, if_pos (by decide)]
    · refine (pw_loop ((0 : Int32), nI 0) 0 (fun j => ((0 : Int32), nI j)) rfl (fun j hj => absurd hj (Nat.not_lt_zero _)) ?_).trans rfl
      try dsimp only
      rw [mf_15, Option.bind_some, hd.1, if_neg (nI_ge (by omega) (by omega)), mf_21, Option.bind_some, hcl', if_neg (by decide)]
  | false =>
    have hcl' : I (b + 211) 21 = 0 := hcl
    rw [if_neg (by decide), ← lv_eq hr hs hnum hi ok]
    refine (pw_loop (nI (mlv E (φ (sl.getD i 0)).1 (pk_ln (φ (sl.getD i 0))) n), nI n) n (fun j => (nI (mlv E (φ (sl.getD i 0)).1 (pk_ln (φ (sl.getD i 0))) j), nI j)) rfl (fun j hj => ?_) ?_).trans rfl
    · obtain ⟨q1, q2, q3, q4, q5, q6, q7, q8⟩ := hd.2.2 j hj
      try dsimp only
      rw [mf_15, Option.bind_some, hd.1, if_neg (nI_ge hj (by omega)), mf_21, Option.bind_some, hcl', if_pos rfl, mg_18 hP, Option.bind_some, ma_227 (by omega), Option.bind_some, q3, mg_2 hP, Option.bind_some, ma_212 (by omega), Option.bind_some, w1]
      by_cases c : (E j).2.2.1 = (φ (sl.getD i 0)).1
      · obtain ⟨e, he, a1, a2, a3⟩ := hr.2.2.2.1 j hj
        obtain ⟨j', r, b1, b2, b3, b4⟩ := ok e he
        have a2' : (E j).2.2.1 = (φ e.2.1).1 := a2
        rw [c, b2] at a2'
        have hji := (hnum i hi).2 j' b1 a2'.symm
        rw [b2, hji, ← a3] at b3
        have hlt := (List.getElem?_eq_some_iff.mp b3).1
        have hrv := hVi r (List.mem_of_getElem? b3)
        have hgd : (φ (sl.getD i 0)).2.2.2.2.getD (E j).2.2.2 (0, 0, 0, 0) = r := getD_of b3
        have hl11 := hzi.2.2
        rw [if_pos (by rw [c]), mg_19 hP, Option.bind_some, ma_228 (by omega), Option.bind_some, q4, mM_ob, Option.bind_some, M_len hP w2 (by omega) b3 (by omega) (by have := hrv.2.2.2.1; omega), Option.bind_some, Option.bind_some, nI_add, nI_1, mlv, if_pos c]
        unfold pk_ln
        rw [hgd]
      · have hn9 := (hnum i hi).1
        rw [if_neg (fun hc => c ((nI_eq (by omega) (by omega)).mp hc)), Option.bind_some, nI_1, mlv, if_neg c]
        rfl
    · try dsimp only
      rw [mf_15, Option.bind_some, hd.1, if_pos (nI_le (Nat.le_refl _) (by omega))]
theorem M_file_bad (h : MR I L b φ sl cnt act last time cl D ou made taken af ar src) (h6 : cnt ≤ 6) {p1 p2 : Int32} (hb : (p2 < 0 ∨ ¬ p2 ≤ 4) ∨ p1 < 0 ∨ cnt ≤ p1.toNatClampNeg) : f_M_file (s, pw_lay (pw_σ b) (I, L, ρ)) (some (b + 211)) p1 p2 = some (0, (s, pw_lay (pw_σ b) (uI I (b + 211) 0 1, L, ρ))) := by
  unfold f_M_file
  rw [mf_1, Option.bind_some, h.1.1, M_in, Option.bind_some]
  by_cases c : ¬ p1 < 0 ∧ p1.toNatClampNeg < cnt
  · have c2 : ¬ (¬ p2 < 0 ∧ p2 ≤ 4) := fun hc => by
      rcases hb with (hb | hb) | hb | hb
      · exact hc.1 hb
      · exact hb hc.2
      · exact c.1 hb
      · omega
    rw [if_pos (show ¬ p1 < 0 ∧ p1 ≤ nI cnt - 1 from (M_in0 (by omega)).mpr c), if_neg (by decide), M_in, Option.bind_some, if_neg c2, if_pos rfl, Option.bind_some, mw_0, Option.bind_some, mf_0, Option.bind_some, uI_at, if_neg (by decide)]
  · rw [if_neg (show ¬ (¬ p1 < 0 ∧ p1 ≤ nI cnt - 1) from fun hc => c ((M_in0 (by omega)).mp hc)), if_pos rfl, Option.bind_some, mw_0, Option.bind_some, mf_0, Option.bind_some, uI_at, if_neg (by decide)]
theorem M_file_ok (h : MR I L b φ sl cnt act last time cl D ou made taken af ar src) (hP : mP b ρ) (h6 : cnt ≤ 6) (hs : dS D) (hnum : pk_nums φ sl cnt) (hz : ∀ i, i < cnt → mZ (φ (sl.getD i 0)) ∧ ∀ r ∈ (φ (sl.getD i 0)).2.2.2.2, rV r) (ok : ∀ e ∈ D, ∃ j r, j < cnt ∧ e.2.1 = sl.getD j 0 ∧ (φ e.2.1).2.2.2.2[e.2.2]? = some r ∧ e.1 = pn_rank r.2.1 r.2.2.1) {p2 : Int32} (h1 : ¬ p2 < 0) (h2 : p2 ≤ 4) {i : Nat} (hi : i < cnt) :
    f_M_file (s, pw_lay (pw_σ b) (I, L, ρ)) (some (b + 211)) (nI i) p2 = some (nI (pk_file φ D cl (sl.getD i 0) p2), (s, pw_lay (pw_σ b) (uI I (b + 211) 0 0, L, ρ))) := by
  have h0 := h.f0 0
  obtain ⟨w1, w2⟩ := h0.2.2.1 i hi
  unfold f_M_file pk_file
  rw [mf_1, Option.bind_some, h.1.1, M_in, Option.bind_some, if_pos (show ¬ nI i < 0 ∧ nI i ≤ nI cnt - 1 from (M_in0 (by omega)).mpr ⟨nI_pos (by omega), by rw [nI_clamp (by omega)]; exact hi⟩), if_neg (by decide), M_in, Option.bind_some, if_pos (show ¬ p2 < 0 ∧ p2 ≤ 4 from ⟨h1, h2⟩), if_neg (by decide), Option.bind_some, mw_0, Option.bind_some, mf_0, Option.bind_some, uI_at, if_pos (by decide)]
  by_cases x3 : p2 = 3
  · rw [if_pos x3, mM_ob, Option.bind_some, M_liveIn h0 hP h6 hs hnum hz ok hi, Option.bind_some, if_neg (show ¬ p2 = 0 by rw [x3]; decide), if_neg (show ¬ p2 = 1 by rw [x3]; decide), if_neg (show ¬ p2 = 2 by rw [x3]; decide), if_pos x3]
  · rw [if_neg x3]
    by_cases x0 : p2 = 0
    · rw [if_pos x0, if_pos x0, mg_2 hP, Option.bind_some, ma_212 (by omega), Option.bind_some, w1]
      rfl
    · rw [if_neg x0, if_neg x0]
      by_cases x1 : p2 = 1
      · rw [if_pos x1, if_pos x1, mg_3 hP, Option.bind_some, ma_213 (by omega), Option.bind_some, w2.1]
        rfl
      · rw [if_neg x1, if_neg x1]
        by_cases x2 : p2 = 2
        · rw [if_pos x2, if_pos x2, mg_4 hP, Option.bind_some, ma_214 (by omega), Option.bind_some, w2.2.1]
          rfl
        · rw [if_neg x2, if_neg x2, if_neg x3, mg_6 hP, Option.bind_some, ma_216 (by omega), Option.bind_some, w2.2.2.2.1]
          by_cases ch : (φ (sl.getD i 0)).2.2.2.1 = []
          · rw [if_pos ch, if_pos rfl, ch]
            rfl
          · rw [if_neg ch, if_neg (by decide), mg_7 hP, Option.bind_some, ma_217 (by omega), Option.bind_some, w2.2.2.2.2.1 ch]
            rfl
end
