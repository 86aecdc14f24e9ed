/-! ===== a file appends a record, as lists ===== -/
/-- the lowest k bytes of a long, the highest first -/
def pn_bys (v : Int64) : Nat → List Nat
  | 0 => []
  | k + 1 => pn_by v k :: pn_bys v k
theorem pn_bys_len (v : Int64) : ∀ k, (pn_bys v k).length = k
  | 0 => rfl
  | k + 1 => by rw [pn_bys, List.length_cons, pn_bys_len v k]
theorem pn_bys_qB (v : Int64) : ∀ k, qB (pn_bys v k)
  | 0 => fun b hb => nomatch hb
  | k + 1 => fun b hb => by
    rw [pn_bys] at hb
    rcases List.mem_cons.mp hb with rfl | h
    · exact pn_by_lt v k
    · exact pn_bys_qB v k b h
theorem qB.app {A B : List Nat} (h : qB A) (g : qB B) : qB (A ++ B) := fun b hb => (List.mem_append.mp hb).elim (h b) (g b)
theorem qB.one {b : Nat} (h : b < 256) : qB [b] := fun c hc => by rw [List.mem_singleton.mp hc]; exact h
theorem nI_255 {n : Nat} (h : n < 256) : nI n &&& 255 = nI n := by
  have h9 : ∀ j : Fin 256, nI j.val &&& 255 = nI j.val := by decide +kernel
  exact h9 ⟨n, h⟩
theorem pw_nb_bys (v : Int64) : ∀ k, k ≤ 8 → (pw_nb v k).map (fun x => x &&& 255) = (pn_bys v k).map nI
  | 0, _ => rfl
  | k + 1, h => by
    rw [pw_nb, pn_bys, List.map_cons, List.map_cons, pw_nb_bys v k (by omega), by_cls v (by omega)]
/-- a record's bytes behind its sum -/
def pn_body (time k : Nat) (key : Int64) (v : Nat) (value : Int64) : List Nat := pn_bys (lN time) 2 ++ ([k] ++ ([v] ++ (pn_bys key k ++ pn_bys value (if v = 255 then 0 else v))))
/-- the sum of a list of bytes -/
def pn_sumL (B : List Nat) : Nat := pn_sum (fun i => B.getD i 0) 0 B.length
/-- a record's bytes -/
def pn_rec (time k : Nat) (key : Int64) (v : Nat) (value : Int64) : List Nat := pn_bys (lN (pn_sumL (pn_body time k key v value))) 4 ++ pn_body time k key v value
theorem pn_body_len (time k : Nat) (key : Int64) (v : Nat) (value : Int64) : (pn_body time k key v value).length + 4 = pn_len k v := by
  unfold pn_body pn_len
  simp only [List.length_append, pn_bys_len, List.length_singleton]
  omega
theorem pn_rec_len (time k : Nat) (key : Int64) (v : Nat) (value : Int64) : (pn_rec time k key v value).length = pn_len k v := by
  unfold pn_rec
  rw [List.length_append, pn_bys_len, ← pn_body_len time k key v value]
  omega
theorem pn_body_qB {time k : Nat} {key : Int64} {v : Nat} {value : Int64} (hk : k < 256) (hv : v < 256) : qB (pn_body time k key v value) := (pn_bys_qB _ _).app ((qB.one hk).app ((qB.one hv).app ((pn_bys_qB _ _).app (pn_bys_qB _ _))))
theorem pn_rec_qB {time k : Nat} {key : Int64} {v : Nat} {value : Int64} (hk : k < 256) (hv : v < 256) : qB (pn_rec time k key v value) := (pn_bys_qB _ _).app (pn_body_qB hk hv)
theorem pn_cr_congr {b c : Nat → Nat} {p q : Nat} : ∀ k, (∀ j, j < k → b (p + j) = c (q + j)) → pn_cr b p k = pn_cr c q k
  | 0, _ => rfl
  | k + 1, h => by rw [pn_cr, pn_cr, pn_cr_congr k (fun j hj => h j (by omega)), h k (by omega)]
theorem pn_sum_congr {b c : Nat → Nat} {p q k : Nat} (h : ∀ j, j < k → b (p + j) = c (q + j)) : pn_sum b p k = pn_sum c q k := by
  unfold pn_sum
  rw [pn_cr_congr k h]
theorem pn_num_congr {b c : Nat → Nat} {p q : Nat} : ∀ k, (∀ j, j < k → b (p + j) = c (q + j)) → pn_num b p k = pn_num c q k
  | 0, _ => rfl
  | k + 1, h => by rw [pn_num, pn_num, pn_num_congr k (fun j hj => h j (by omega)), h k (by omega)]
theorem pn_getD_app (A B : List Nat) (j : Nat) : (A ++ B).getD (A.length + j) 0 = B.getD j 0 := by
  unfold List.getD
  rw [List.getElem?_append_right (by omega), Nat.add_sub_cancel_left]
theorem pn_by_0 (k : Nat) : pn_by 0 k = 0 := by
  unfold pn_by
  rw [show (0 : Int64).toBitVec.toNat = 0 by decide, Nat.zero_div, Nat.zero_mod]
theorem pw_rb_map {time k : Nat} (key : Int64) {v : Nat} (value : Int64) (ht : time < 2 ^ 31) (hk : k ≤ 4) (hv : v ≤ 8 ∨ v = 255) : (pw_rb (nI time) k key v value).map (fun x => x &&& 255) = (pn_bys 0 4 ++ pn_body time k key v value).map nI := by
  have hv2 : v < 256 := by omega
  unfold pw_rb pn_body
  simp only [List.map_append]
  rw [pw_nb_bys _ 4 (by decide), pw_nb_bys _ 2 (by decide), pw_nb_bys _ k (by omega), pw_nb_bys _ _ (by split <;> omega), nI_l ht]
  simp only [List.map_cons, List.map_nil, nI_255 (show k < 256 by omega), nI_255 hv2]
theorem pw_l4_mid (A C : List Int32) (z0 z1 z2 z3 : Int32) (v : Int64) : pw_l4 (A ++ (z0 :: z1 :: z2 :: z3 :: C)) A.length v 4 = A ++ ((pn_bys v 4).map nI ++ C) := by
  simp only [pw_l4]
  rw [show (8 : Int32) * (3 - nI 0) = 8 * nI 3 by decide +kernel, show (8 : Int32) * (3 - nI 1) = 8 * nI 2 by decide +kernel, show (8 : Int32) * (3 - nI 2) = 8 * nI 1 by decide +kernel, show (8 : Int32) * (3 - nI 3) = 8 * nI 0 by decide +kernel]
  show (((List.set _ (A.length + 0) ((aj_lushr v (8 * nI 3)).toInt32 &&& 255)).set (A.length + 1) ((aj_lushr v (8 * nI 2)).toInt32 &&& 255)).set (A.length + 2) ((aj_lushr v (8 * nI 1)).toInt32 &&& 255)).set (A.length + 3) ((aj_lushr v (8 * nI 0)).toInt32 &&& 255) = _
  rw [by_cls v (by decide), by_cls v (by decide), by_cls v (by decide), by_cls v (by decide)]
  simp [List.set_append_right, pn_bys]
theorem pw_rs_n {B : List Nat} (hB : qB B) {time k : Nat} (key : Int64) {v : Nat} (value : Int64) (ht : time < 2 ^ 31) (hk : k ≤ 4) (hv : v ≤ 8 ∨ v = 255) : pw_rs (B.map nI) (pw_rb (nI time) k key v value) = lN (pn_sumL (pn_body time k key v value)) := by
  have hlen := pw_rb_len (nI time) k key v value
  have hlen2 := pn_body_len time k key v value
  unfold pw_rs
  rw [pw_rb_map key value ht hk hv, ← List.map_append, pw_map_fun, pw_sum_n (qB.getD (hB.app ((pn_bys_qB _ _).app (pn_body_qB (by omega) (by omega))))), hlen, pw_map_len, show pn_len k v - 4 = (pn_body time k key v value).length by omega]
  unfold pn_sumL
  congr 1
  refine pn_sum_congr fun j _ => ?_
  rw [Nat.add_assoc, pn_getD_app, show 4 + j = (pn_bys 0 4).length + j by rw [pn_bys_len], pn_getD_app, Nat.zero_add]
theorem pw_Fp.kept4 {ρ ρ' : Nat → Nat → Option Nat} {f : Nat} (h : pw_Fp ρ f) (e0 : ρ' f = ρ f) (e1 : ρ' (f + 1) = ρ (f + 1)) (e3 : ρ' (f + 3) = ρ (f + 3)) (e5 : ρ' (f + 5) = ρ (f + 5)) : pw_Fp ρ' f := by
  obtain ⟨a0, a1, a2, a3, a4, a5⟩ := h
  exact ⟨by rw [e0]; exact a0, by rw [e0]; exact a1, by rw [e0]; exact a2, by rw [e1]; exact a3, by rw [e3]; exact a4, fun k hk => by rw [e5]; exact a5 k hk⟩
section
variable {σ : Nat → Option pw_Sh} {μ μ' : pw_Mem} {s : Option Nat} {f : Nat} {t : qf}
/-- the bytes of a file change -/
theorem qF_bytes (h : qF σ μ f t) {B : List Nat} (g : pw_fr μ μ' (fun a => a = f + 1 ∨ a = f + 2)) (hO : pw_OL σ μ' (f + 1) 100 (B.map nI)) : qF σ μ' f (t.1, B, t.2.2) := by
  obtain ⟨h1, h2, h3, h4, h5, h6, h7, h8, h9⟩ := h
  have hf := g f (by omega)
  refine ⟨h1, ?_, hO, pl_fr h4 g (by omega) (by omega), by rw [hf.1]; exact h5, by rw [hf.1]; exact h6, by rw [hf.1]; exact h7, h8, fun i r hr => (h9 i r hr).keep (g _ (by omega))⟩
  obtain ⟨a0, a1, a2, a3, a4, a5⟩ := h2
  have e1 : μ'.2.2 (f + 1) 0 = some (f + 2) := hO.1.2.2.1
  exact ⟨by rw [hf.2.2]; exact a0, by rw [hf.2.2]; exact a1, by rw [hf.2.2]; exact a2, e1, by rw [(g (f + 3) (by omega)).2.2]; exact a4, fun k hk => by rw [(g (f + 5) (by omega)).2.2]; exact a5 k hk⟩
/-- a record is noted -/
theorem qF_noted (h : qF σ μ f t) (hc : t.2.2.2.2.length < 11) (p k x v : Nat) (src : Option Nat) : qF σ (pw_note μ f t.2.2.2.2.length (nI p) (lN (pn_rank k x)) (nI v) src) f (t.1, t.2.1, t.2.2.1, t.2.2.2.1, t.2.2.2.2 ++ [(p, k, x, v)]) := by
  have g : pw_fr μ (pw_note μ f t.2.2.2.2.length (nI p) (lN (pn_rank k x)) (nI v) src) (fun a => a = f ∨ a = f + 6 + t.2.2.2.2.length) := pw_fr.note (Or.inl rfl) (Or.inr rfl)
  obtain ⟨h1, h2, h3, h4, h5, h6, h7, h8, h9⟩ := h
  have o1 : ∀ j, j ≠ 3 → (pw_note μ f t.2.2.2.2.length (nI p) (lN (pn_rank k x)) (nI v) src).1 f j = μ.1 f j := fun j hj => by
    unfold pw_note
    show (if f = f + 6 + t.2.2.2.2.length ∧ j = 3 then _ else if f = f + 6 + t.2.2.2.2.length ∧ j = 1 then _ else if f = f ∧ j = 3 then _ else μ.1 f j) = _
    rw [if_neg (by omega), if_neg (by omega), if_neg (by omega)]
  have o2 : (pw_note μ f t.2.2.2.2.length (nI p) (lN (pn_rank k x)) (nI v) src).2.2 f = μ.2.2 f := by
    unfold pw_note
    exact (pw_sR_off (by omega)).trans (pw_sR_off (by omega))
  refine ⟨h1, h2.kept4 o2 (g _ (by omega)).2.2 (g _ (by omega)).2.2 (g _ (by omega)).2.2, pl_fr h3 g (by omega) (by omega), pl_fr h4 g (by omega) (by omega), by rw [o1 4 (by decide)]; exact h5, by rw [o1 5 (by decide)]; exact h6, ?_, ?_, fun i r hr => ?_⟩
  · unfold pw_note
    show (if f = f + 6 + t.2.2.2.2.length ∧ 3 = 3 then _ else if f = f + 6 + t.2.2.2.2.length ∧ 3 = 1 then _ else if f = f ∧ 3 = 3 then nI (t.2.2.2.2.length + 1) else μ.1 f 3) = _
    rw [if_neg (by omega), if_neg (by omega), if_pos ⟨rfl, rfl⟩, List.length_append, List.length_singleton]
  · rw [List.length_append, List.length_singleton]
    omega
  · by_cases hi : i < t.2.2.2.2.length
    · rw [List.getElem?_append_left hi] at hr
      exact (h9 i r hr).keep (g _ (by omega))
    · have hl := (List.getElem?_eq_some_iff.mp hr).1
      rw [List.length_append, List.length_singleton] at hl
      have hi2 : i = t.2.2.2.2.length := by omega
      subst hi2
      rw [List.getElem?_append_right (Nat.le_refl _), Nat.sub_self] at hr
      cases hr
      unfold pw_note
      refine ⟨?_, ?_, ?_, ?_⟩
      · show (if f + 6 + t.2.2.2.2.length = f + 6 + t.2.2.2.2.length ∧ 0 = 4 then _ else if f + 6 + t.2.2.2.2.length = f + 6 + t.2.2.2.2.length ∧ 0 = 0 then some f else _) = _
        rw [if_neg (by omega), if_pos ⟨rfl, rfl⟩]
      · show (if f + 6 + t.2.2.2.2.length = f + 6 + t.2.2.2.2.length ∧ 1 = 3 then _ else if f + 6 + t.2.2.2.2.length = f + 6 + t.2.2.2.2.length ∧ 1 = 1 then nI p else _) = _
        rw [if_neg (by omega), if_pos ⟨rfl, rfl⟩]
      · show (if f + 6 + t.2.2.2.2.length = f + 6 + t.2.2.2.2.length ∧ 2 = 2 then lN (pn_rank k x) else _) = _
        rw [if_pos ⟨rfl, rfl⟩]
      · show (if f + 6 + t.2.2.2.2.length = f + 6 + t.2.2.2.2.length ∧ 3 = 3 then nI v else _) = _
        rw [if_pos ⟨rfl, rfl⟩]
theorem qF_append (h : qF σ μ f t) (hB : qB t.2.1) (hc : t.2.2.2.2.length < 11) {time k x v : Nat} (ht : time < 2 ^ 31) (h1 : 1 ≤ k) (h4 : k ≤ 4) (hx : x < 2 ^ (8 * k)) (hv : v ≤ 8 ∨ v = 255) (value : Int64) (hr : t.2.1.length + pn_len k v ≤ 100) :
    ∃ μ', f_F_append (s, pw_lay σ μ) (some f) (nI time) (lN (pn_rank k x)) value (nI v) = some (some (f + 6 + t.2.2.2.2.length), (s, pw_lay σ μ')) ∧ qF σ μ' f (t.1, t.2.1 ++ pn_rec time k (lN x) v value, t.2.2.1, t.2.2.2.1, t.2.2.2.2 ++ [(t.2.1.length, k, x, v)]) ∧ pw_fr μ μ' (pw_in f) := by
  have h' := h
  obtain ⟨a1, a2, a3, a4, a5, a6, a7, a8, a9⟩ := h'
  have hlen := pw_rb_len (nI time) k (lN x) v value
  have e := pf_append (s := s) a1 a2 a3 a7 hc (nI time) h1 h4 hx (show v < 256 by omega) value (by rw [pw_map_len]; exact hr)
  rw [pw_rs_n hB (lN x) value ht h4 hv, pw_map_len] at e
  have k1 := pl_abs (pw_rb (nI time) k (lN x) v value) μ (t.2.1.map nI) a3 (by rw [pw_map_len, hlen]; exact hr)
  rw [pw_rb_map (lN x) value ht h4 hv, pw_map_len] at k1
  have k2 := pl_s4 k1 t.2.1.length (lN (pn_sumL (pn_body time k (lN x) v value))) 4
  have k3 : pw_l4 (t.2.1.map nI ++ (pn_bys 0 4 ++ pn_body time k (lN x) v value).map nI) t.2.1.length (lN (pn_sumL (pn_body time k (lN x) v value))) 4 = (t.2.1 ++ pn_rec time k (lN x) v value).map nI := by
    have := pw_l4_mid (t.2.1.map nI) ((pn_body time k (lN x) v value).map nI) (nI (pn_by 0 3)) (nI (pn_by 0 2)) (nI (pn_by 0 1)) (nI (pn_by 0 0)) (lN (pn_sumL (pn_body time k (lN x) v value)))
    rw [pw_map_len] at this
    rw [List.map_append, List.map_append]
    unfold pn_rec
    rw [List.map_append, ← this]
    rfl
  rw [k3] at k2
  have g1 : pw_fr μ (pw_s4 (pw_abs μ (f + 1) t.2.1.length (pw_rb (nI time) k (lN x) v value)) (f + 1) t.2.1.length (lN (pn_sumL (pn_body time k (lN x) v value))) 4) (fun a => a = f + 1 ∨ a = f + 2) := (pw_fr.abs (Or.inl rfl) (Or.inr rfl) _ _ _).trans (pw_fr.s4 (Or.inr rfl) _ _ _ _)
  have q1 := qF_bytes h g1 k2
  refine ⟨_, e, qF_noted q1 hc t.2.1.length k x v none, (g1.mono (fun a ha => ?_)).trans (pw_fr.note ⟨by omega, by omega⟩ ⟨by omega, by omega⟩)⟩
  unfold pw_in
  omega
theorem pn_run_map (C : List Nat) (p : Nat) : ∀ k, p + k ≤ C.length → pw_run (fun i => (C.map nI).getD i 0) p k = ((C.drop p).take k).map nI
  | 0, _ => by rw [List.take_zero]; rfl
  | k + 1, h => by
    rw [pw_run, pn_run_map C p k (by omega), pw_map_getD, List.take_add_one, List.map_append, List.getElem?_drop, List.getElem?_eq_getElem (show p + k < C.length by omega)]
    unfold List.getD
    rw [List.getElem?_eq_getElem (show p + k < C.length by omega)]
    rfl
theorem qB.sub {C D : List Nat} (h : qB C) (g : ∀ b ∈ D, b ∈ C) : qB D := fun b hb => h b (g b hb)
theorem qB.dt {C : List Nat} (h : qB C) (p k : Nat) : qB ((C.drop p).take k) := h.sub fun b hb => List.mem_of_mem_drop (List.mem_of_mem_take hb)
theorem map_255 {D : List Nat} (h : qB D) : (D.map nI).map (fun x => x &&& 255) = D.map nI := by
  rw [List.map_map]
  refine List.map_congr_left fun b hb => ?_
  exact nI_255 (h b hb)
/-- the record i of the file g is copied to the file f -/
theorem qF_copy (h : qF σ μ f t) (hc : t.2.2.2.2.length < 11) {g : Nat} {u : qf} (hg : qF σ μ g u) (hC : qB u.2.1) {i p k x v : Nat} (hr : u.2.2.2.2[i]? = some (p, k, x, v)) (hk : k ≤ 4) (hv : v ≤ 8 ∨ v = 255) (hp : p + pn_len k v ≤ u.2.1.length) (d : pw_ap g f) (room : t.2.1.length + pn_len k v ≤ 100) :
    ∃ μ', f_F_appendCopy (s, pw_lay σ μ) (some f) (some (g + 6 + i)) = some (s, pw_lay σ μ') ∧ qF σ μ' f (t.1, t.2.1 ++ (u.2.1.drop p).take (pn_len k v), t.2.2.1, t.2.2.2.1, t.2.2.2.2 ++ [(t.2.1.length, k, x, v)]) ∧ pw_fr μ μ' (pw_in f) ∧ μ'.2.2 (f + 6 + t.2.2.2.2.length) 4 = some (g + 6 + i) ∧ ∀ j, j < t.2.2.2.2.length → μ'.2.2 (f + 6 + j) 4 = μ.2.2 (f + 6 + j) 4 := by
  have h' := h
  have hg' := hg
  obtain ⟨a1, a2, a3, a4, a5, a6, a7, a8, a9⟩ := h'
  obtain ⟨b1, b2, b3, b4, b5, b6, b7, b8, b9⟩ := hg'
  have hi : i < u.2.2.2.2.length := (List.getElem?_eq_some_iff.mp hr).1
  obtain ⟨r1, r2, r3, r4⟩ := b9 i _ hr
  have hul : u.2.1.length ≤ 100 := by have := b3.1.2.2.2.2.1; rw [pw_map_len] at this; exact this
  unfold pw_ap at d
  have e := pf_appendCopy (s := s) (r := g + 6 + i) (p := p) (k := k) (x := x) (v := v) a1 a2 b1 b2 (b1.2.2.2.2.2.2 i (by omega)) r1 r2 (by omega) r3 r4 (by omega) (by omega) a3 b3 (by omega) (by omega) (by omega) (by rw [pw_map_len]; exact room) a7 hc (by omega) (by omega)
  have hl : ((u.2.1.drop p).take (pn_len k v)).length = pn_len k v := by rw [List.length_take, List.length_drop]; omega
  rw [pn_run_map u.2.1 p _ hp, pw_map_len] at e
  have k1 := pl_abs (((u.2.1.drop p).take (pn_len k v)).map nI) μ (t.2.1.map nI) a3 (by rw [pw_map_len, pw_map_len, hl]; exact room)
  rw [map_255 (hC.dt _ _), ← List.map_append, pw_map_len] at k1
  have g1 : pw_fr μ (pw_abs μ (f + 1) t.2.1.length (((u.2.1.drop p).take (pn_len k v)).map nI)) (fun a => a = f + 1 ∨ a = f + 2) := pw_fr.abs (Or.inl rfl) (Or.inr rfl) _ _ _
  have q1 := qF_bytes h g1 k1
  refine ⟨_, e, qF_noted q1 hc t.2.1.length k x v (some (g + 6 + i)), (g1.mono (fun a ha => ?_)).trans (pw_fr.note ⟨by omega, by omega⟩ ⟨by omega, by omega⟩), ?_, fun j hj => ?_⟩
  · unfold pw_in
    omega
  · unfold pw_note
    exact if_pos ⟨rfl, rfl⟩
  · unfold pw_note
    refine (if_neg (by omega)).trans ((if_neg (by omega)).trans ?_)
    show (pw_abs μ (f + 1) t.2.1.length (((u.2.1.drop p).take (pn_len k v)).map nI)).2.2 _ _ = _
    rw [pw_abs_R]
end
