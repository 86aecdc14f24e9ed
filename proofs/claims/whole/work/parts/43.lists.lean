/-! ===== rows of bytes, as lists ===== -/
/-- the row at o holds the list B -/
def pw_OL (σ : Nat → Option pw_Sh) (μ : pw_Mem) (o cap : Nat) (B : List Int32) : Prop := pw_O σ μ o cap B.length ∧ ∀ i, i < B.length → pw_b μ o i = B.getD i 0
theorem pw_n8_and (x : Int32) : pw_n8 x &&& 255 = x &&& 255 := by
  unfold pw_n8
  apply Int32.toBitVec_inj.mp
  simp only [Int32.toBitVec_and, Int8.toBitVec_toInt32, Int32.toBitVec_toInt8]
  apply BitVec.eq_of_getLsbD_eq
  intro i hi
  rw [BitVec.getLsbD_and, BitVec.getLsbD_and]
  by_cases h8 : i < 8
  · simp only [BitVec.getLsbD_signExtend, if_pos h8, if_pos hi, decide_eq_true h8, decide_eq_true hi, Bool.true_and]
  · have h9 : ∀ j : Fin 32, ¬ j.val < 8 → ((255 : Int32).toBitVec).getLsbD j.val = false := by decide +kernel
    rw [h9 ⟨i, hi⟩ h8, Bool.and_false, Bool.and_false]
section
variable {σ : Nat → Option pw_Sh} {μ : pw_Mem} {s : Option Nat} {o cap : Nat} {B : List Int32}
theorem pw_OL.bz (h : pw_OL σ μ o cap B) : pw_bz μ o B.length = fun i => B.getD i 0 := by
  funext i
  unfold pw_bz
  by_cases hi : i < B.length
  · rw [if_pos hi, h.2 i hi]
  · rw [if_neg hi, show B.getD i 0 = 0 by simp [List.getD, List.getElem?_eq_none (Nat.not_lt.mp hi)]]
theorem pl_at (h : pw_OL σ μ o cap B) {i : Nat} (hi : i < 2 ^ 31) : f_O_at (s, pw_lay σ μ) (some o) (nI i) = some (B.getD i 0) := by
  rw [po_at' h.1 hi, h.bz]
theorem pl_number (h : pw_OL σ μ o cap B) {p k : Nat} (hp : p + k < 2 ^ 31) : f_O_number (s, pw_lay σ μ) (some o) (nI p) (nI k) = some (pw_num (fun i => B.getD i 0) p k) := by
  rw [po_number h.1 hp, h.bz]
theorem pl_sum (h : pw_OL σ μ o cap B) {p k : Nat} (hp : p + k < 2 ^ 31) : f_O_sum (s, pw_lay σ μ) (some o) (nI p) (nI (p + k)) = some (pw_sum (fun i => B.getD i 0) p k) := by
  rw [po_sum h.1 hp, h.bz]
theorem pl_ab (h : pw_OL σ μ o cap B) (hn : B.length < cap) (x : Int32) : pw_OL σ (pw_ab μ o B.length x) o cap (B ++ [x &&& 255]) := by
  refine ⟨?_, fun i hi => ?_⟩
  · rw [List.length_append]
    exact po_ab h.1 hn x
  · rw [List.length_append, List.length_singleton] at hi
    have e1 : pw_b (pw_ab μ o B.length x) o i = if i = B.length then pw_n8 x &&& 255 else pw_b μ o i := by
      unfold pw_b pw_ab
      rw [pw_sI_I, if_neg (fun hc => absurd hc.1 (by omega)), pw_sI_I]
      by_cases hq : i = B.length
      · rw [if_pos ⟨rfl, hq⟩, if_pos hq]
      · rw [if_neg (fun hc => hq hc.2), if_neg hq]
    rw [e1]
    by_cases hq : i = B.length
    · subst hq
      rw [if_pos rfl, pw_n8_and]
      simp [List.getD]
    · rw [if_neg hq, h.2 i (by omega)]
      simp only [List.getD]
      rw [List.getElem?_append_left (by omega)]
theorem pl_abs : ∀ (l : List Int32) (μ : pw_Mem) (B : List Int32), pw_OL σ μ o cap B → B.length + l.length ≤ cap → pw_OL σ (pw_abs μ o B.length l) o cap (B ++ l.map (fun x => x &&& 255))
  | [], _, B, h, _ => by rw [List.map_nil, List.append_nil]; exact h
  | x :: t, μ, B, h, hl => by
    rw [List.length_cons] at hl
    have := pl_abs t (pw_ab μ o B.length x) (B ++ [x &&& 255]) (pl_ab h (by omega) x) (by rw [List.length_append, List.length_singleton]; omega)
    rw [List.length_append, List.length_singleton, List.append_assoc] at this
    exact this
theorem pl_cut (h : pw_OL σ μ o cap B) (k : Nat) : pw_OL σ (if k < B.length then pw_sI μ o 1 (nI k) else μ) o cap (B.take k) := by
  by_cases hk : k < B.length
  · rw [if_pos hk]
    obtain ⟨⟨h1, h2, h3, h4, h5, h6⟩, h7⟩ := h
    have hl : (B.take k).length = k := by rw [List.length_take]; omega
    refine ⟨⟨h1, h2, h3, ?_, by omega, h6⟩, fun i hi => ?_⟩
    · rw [hl]
      exact if_pos ⟨rfl, rfl⟩
    · rw [hl] at hi
      have e1 : pw_b (pw_sI μ o 1 (nI k)) o i = pw_b μ o i := by
        unfold pw_b
        rw [pw_sI_off (by omega)]
      rw [e1, h7 i (by omega)]
      simp only [List.getD]
      rw [List.getElem?_take_of_lt hi]
  · rw [if_neg hk, List.take_of_length_le (Nat.not_lt.mp hk)]
    exact h
theorem pl_set (h : pw_OL σ μ o cap B) {i : Nat} (x : Int32) : pw_OL σ (pw_sI μ (o + 1) i (pw_n8 x)) o cap (B.set i (x &&& 255)) := by
  obtain ⟨⟨h1, h2, h3, h4, h5, h6⟩, h7⟩ := h
  refine ⟨⟨h1, h2, h3, ?_, by rw [List.length_set]; exact h5, h6⟩, fun j hj => ?_⟩
  · rw [List.length_set, pw_sI_I, if_neg (fun hc => absurd hc.1 (by omega))]
    exact h4
  · rw [List.length_set] at hj
    unfold pw_b
    rw [pw_sI_I]
    unfold List.getD
    rw [List.getElem?_set]
    by_cases hq : j = i
    · subst hq
      rw [if_pos ⟨rfl, rfl⟩, if_pos rfl, if_pos hj, pw_n8_and]
      rfl
    · rw [if_neg (fun hc => hq hc.2), if_neg (fun hc => hq hc.symm)]
      exact h7 j hj
theorem pl_keep {μ' : pw_Mem} (h : pw_OL σ μ o cap B) (e1 : μ'.1 o = μ.1 o) (e2 : μ'.1 (o + 1) = μ.1 (o + 1)) (e3 : μ'.2.2 o = μ.2.2 o) : pw_OL σ μ' o cap B := by
  obtain ⟨⟨h1, h2, h3, h4, h5, h6⟩, h7⟩ := h
  exact ⟨⟨h1, h2, by rw [e3]; exact h3, by rw [e1]; exact h4, h5, h6⟩, fun i hi => by unfold pw_b; rw [e2]; exact h7 i hi⟩
/-- four bytes set -/
def pw_l4 (B : List Int32) (p : Nat) (v : Int64) : Nat → List Int32
  | 0 => B
  | k + 1 => (pw_l4 B p v k).set (p + k) ((aj_lushr v (8 * (3 - nI k))).toInt32 &&& 255)
theorem pl_s4 (h : pw_OL σ μ o cap B) (p : Nat) (v : Int64) : ∀ k, pw_OL σ (pw_s4 μ o p v k) o cap (pw_l4 B p v k)
  | 0 => h
  | k + 1 => pl_set (pl_s4 h p v k) _
end
