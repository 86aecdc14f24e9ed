/-! ===== rows of bytes: numbers, sums, copies ===== -/
theorem aw_wh_run {σ τ : Type} {body : σ → Option (σ ⊕ τ)} {r : τ} : ∀ (k : Nat) (S : Nat → σ), (∀ j, j < k → body (S j) = some (.inl (S (j + 1)))) → body (S k) = some (.inr r) → aw_wh body (S 0) = some r
  | 0, _, _, hr => aw_wh_out hr
  | k + 1, S, h, hr => (aw_wh_in (h 0 (Nat.succ_pos k))).trans (aw_wh_run k (fun j => S (j + 1)) (fun j hj => h (j + 1) (Nat.succ_lt_succ hj)) hr)
theorem pw_loop {σ τ ρ : Type} {body : σ → Option (σ ⊕ τ)} {f : τ → Option ρ} {s0 : σ} (r : τ) (k : Nat) (S : Nat → σ) (h0 : S 0 = s0) (h : ∀ j, j < k → body (S j) = some (.inl (S (j + 1)))) (hr : body (S k) = some (.inr r)) : (aw_wh body s0).bind f = f r := by
  rw [← h0, aw_wh_run k S h hr]
  rfl
/-- a byte, 0 where there is none -/
def pw_bz (μ : pw_Mem) (o n i : Nat) : Int32 := if i < n then pw_b μ o i else 0
/-- the number in k bytes from p on -/
def pw_num (b : Nat → Int32) (p : Nat) : Nat → Int64
  | 0 => 0
  | k + 1 => aj_lshl (pw_num b p k) 8 ||| (b (p + k)).toInt64
/-- a step of the sum, for a bit -/
def pw_c1 (c : Int32) : Int32 := if c &&& 1 = 0 then aj_ushr c 1 else aj_ushr c 1 ^^^ (-306674912)
def pw_c8 (c : Int32) : Nat → Int32
  | 0 => c
  | k + 1 => pw_c1 (pw_c8 c k)
def pw_cr (b : Nat → Int32) (p : Nat) : Nat → Int32
  | 0 => -1
  | k + 1 => pw_c8 (pw_cr b p k ^^^ b (p + k)) 8
/-- the sum of k bytes from p on -/
def pw_sum (b : Nat → Int32) (p k : Nat) : Int64 := (pw_cr b p k ^^^ -1).toInt64 &&& 4294967295
section
variable {σ : Nat → Option pw_Sh} {μ : pw_Mem} {s : Option Nat} {o cap n : Nat}
theorem po_at' (h : pw_O σ μ o cap n) {i : Nat} (hi : i < 2 ^ 31) : f_O_at (s, pw_lay σ μ) (some o) (nI i) = some (pw_bz μ o n i) := po_at h hi
theorem po_number (h : pw_O σ μ o cap n) {p k : Nat} (hp : p + k < 2 ^ 31) : f_O_number (s, pw_lay σ μ) (some o) (nI p) (nI k) = some (pw_num (pw_bz μ o n) p k) := by
  unfold f_O_number
  refine (pw_loop (pw_num (pw_bz μ o n) p k, nI k) k (fun j => (pw_num (pw_bz μ o n) p j, nI j)) rfl (fun j hj => ?_) ?_).trans rfl
  · dsimp only
    rw [if_neg (nI_ge hj (by omega)), pw_obj, pw_ob_of h.1]
    simp only [Option.map_some, Option.bind_some]
    rw [nI_add, po_at' h (by omega)]
    simp only [Option.bind_some]
    rw [nI_1]
    rfl
  · dsimp only
    rw [if_pos (nI_le (Nat.le_refl _) (by omega))]
theorem pw_c8_loop (c : Int32) : aw_wh (σ := Int32 × Int32) (τ := Int32 × Int32) (fun s4 =>
        if (8 : Int32) ≤ s4.2 then
          some (.inr (s4.1, s4.2))
        else
          (if (s4.1 &&& (1 : Int32)) = 0 then
              some (aj_ushr s4.1 (1 : Int32))
            else
              some ((aj_ushr s4.1 (1 : Int32)) ^^^ (-306674912 : Int32)) : Option (Int32)).bind fun j5 =>
          some (.inl (j5, s4.2 + 1))) (c, (0 : Int32)) = some (pw_c8 c 8, 8) := by
  refine aw_wh_run 8 (fun j => (pw_c8 c j, nI j)) (fun j hj => ?_) ?_
  · dsimp only
    rw [if_neg (show ¬ (8 : Int32) ≤ nI j from nI_ge (b := 8) hj (by omega))]
    have h1 : (if (pw_c8 c j &&& (1 : Int32)) = 0 then some (aj_ushr (pw_c8 c j) (1 : Int32)) else some ((aj_ushr (pw_c8 c j) (1 : Int32)) ^^^ (-306674912 : Int32)) : Option Int32) = some (pw_c8 c (j + 1)) := by
      show _ = some (pw_c1 (pw_c8 c j))
      unfold pw_c1
      split <;> rfl
    rw [h1]
    simp only [Option.bind_some]
    rw [nI_1]
  · dsimp only
    rw [if_pos (show (8 : Int32) ≤ nI 8 by decide)]
    rfl
theorem po_sum (h : pw_O σ μ o cap n) {p k : Nat} (hp : p + k < 2 ^ 31) : f_O_sum (s, pw_lay σ μ) (some o) (nI p) (nI (p + k)) = some (pw_sum (pw_bz μ o n) p k) := by
  unfold f_O_sum
  refine (pw_loop (pw_cr (pw_bz μ o n) p k, nI (p + k)) k (fun j => (pw_cr (pw_bz μ o n) p j, nI (p + j))) rfl (fun j hj => ?_) ?_).trans rfl
  · dsimp only
    rw [if_neg (nI_ge (by omega) (by omega)), pw_obj, pw_ob_of h.1]
    simp only [Option.map_some, Option.bind_some]
    rw [po_at' h (by omega)]
    simp only [Option.bind_some]
    rw [pw_c8_loop]
    simp only [Option.bind_some]
    rw [nI_1]
    rfl
  · dsimp only
    rw [if_pos (nI_le (Nat.le_refl _) (by omega))]
/-- an end before the place: the sum of nothing -/
theorem po_sum0 (h : pw_O σ μ o cap n) {x y : Int32} (hp : y ≤ x) : f_O_sum (s, pw_lay σ μ) (some o) x y = some (pw_sum (pw_bz μ o n) 0 0) := by
  unfold f_O_sum
  rw [aw_wh_out (r := (-1, x)) (by dsimp only; rw [if_pos hp])]
  rfl
/-- the four bytes of a sum are set -/
def pw_s4 (μ : pw_Mem) (o p : Nat) (v : Int64) : Nat → pw_Mem
  | 0 => μ
  | k + 1 => pw_sI (pw_s4 μ o p v k) (o + 1) (p + k) (pw_n8 ((aj_lushr v (8 * (3 - nI k))).toInt32))
theorem po_s4 (h : pw_O σ μ o cap n) (p : Nat) (v : Int64) : ∀ k, pw_O σ (pw_s4 μ o p v k) o cap n
  | 0 => h
  | k + 1 => by
    obtain ⟨h1, h2, h3, h4, h5, h6⟩ := po_s4 h p v k
    refine ⟨h1, h2, h3, ?_, h5, h6⟩
    show (if o = o + 1 ∧ 1 = p + k then _ else _) = nI n
    rw [if_neg (fun hc => absurd hc.1 (by omega))]
    exact h4
theorem po_setSum (h : pw_O σ μ o cap n) {p : Nat} (hp : p + 4 ≤ n) (v : Int64) : f_O_setSum (s, pw_lay σ μ) (some o) (nI p) v = some (s, pw_lay σ (pw_s4 μ o p v 4)) := by
  have hc := h.2.2.2.2
  unfold f_O_setSum
  refine (pw_loop (4, (s, pw_lay σ (pw_s4 μ o p v 4))) 4 (fun j => (nI j, (s, pw_lay σ (pw_s4 μ o p v j)))) rfl (fun j hj => ?_) ?_).trans rfl
  · dsimp only
    rw [if_neg (show ¬ (4 : Int32) ≤ nI j from nI_ge (b := 4) hj (by omega)), pw_obj, pw_ob_of h.1]
    simp only [Option.map_some, Option.bind_some]
    rw [nI_add, po_set (po_s4 h p v j) (by omega)]
    simp only [Option.bind_some]
    rw [nI_1]
    rfl
  · dsimp only
    rw [if_pos (show (4 : Int32) ≤ nI 4 by decide)]
    rfl
theorem pw_abs_snoc : ∀ (l : List Int32) (μ : pw_Mem) (n : Nat) (x : Int32), pw_abs μ o n (l ++ [x]) = pw_ab (pw_abs μ o n l) o (n + l.length) x
  | [], _, _, _ => rfl
  | y :: t, μ, n, x => by
    show pw_abs (pw_ab μ o n y) o (n + 1) (t ++ [x]) = _
    rw [pw_abs_snoc t, List.length_cons, show n + 1 + t.length = n + (t.length + 1) by omega]
    rfl
/-- what lies elsewhere stays -/
theorem pw_abs_off {a : Nat} (h1 : a ≠ o) (h2 : a ≠ o + 1) : ∀ (l : List Int32) (μ : pw_Mem) (n : Nat), (pw_abs μ o n l).1 a = μ.1 a
  | [], _, _ => rfl
  | x :: t, μ, n => by
    show (pw_abs (pw_ab μ o n x) o (n + 1) t).1 a = _
    rw [pw_abs_off h1 h2 t]
    unfold pw_ab
    rw [pw_sI_off h1, pw_sI_off h2]
theorem pw_abs_R : ∀ (l : List Int32) (μ : pw_Mem) (n : Nat), (pw_abs μ o n l).2 = μ.2
  | [], _, _ => rfl
  | x :: t, μ, n => pw_abs_R t (pw_ab μ o n x) (n + 1)
/-- k bytes from p on, as a list -/
def pw_run (b : Nat → Int32) (p : Nat) : Nat → List Int32
  | 0 => []
  | k + 1 => pw_run b p k ++ [b (p + k)]
theorem pw_run_len (b : Nat → Int32) (p : Nat) : ∀ k, (pw_run b p k).length = k
  | 0 => rfl
  | k + 1 => by rw [pw_run, List.length_append, pw_run_len b p k]; rfl
theorem po_addFrom {o2 cap2 n2 : Nat} (h : pw_O σ μ o cap n) (h2 : pw_O σ μ o2 cap2 n2) (d1 : o2 ≠ o) (d2 : o2 + 1 ≠ o) (d3 : o2 ≠ o + 1) {p k : Nat} (hk : n + k ≤ cap) (hp : p + k < 2 ^ 31) :
    f_O_addFrom (s, pw_lay σ μ) (some o) (some o2) (nI p) (nI k) = some (s, pw_lay σ (pw_abs μ o n (pw_run (pw_bz μ o2 n2) p k))) := by
  unfold f_O_addFrom
  have off : ∀ l, pw_O σ (pw_abs μ o n l) o2 cap2 n2 ∧ pw_bz (pw_abs μ o n l) o2 n2 = pw_bz μ o2 n2 := by
    intro l
    obtain ⟨q1, q2, q3, q4, q5, q6⟩ := h2
    refine ⟨⟨q1, q2, ?_, ?_, q5, q6⟩, ?_⟩
    · rw [pw_abs_R]; exact q3
    · rw [pw_abs_off d1 d3]; exact q4
    · funext i
      unfold pw_bz pw_b
      rw [pw_abs_off d2 (fun h => d1 (Nat.succ.inj h))]
  refine (pw_loop (nI k, (s, pw_lay σ (pw_abs μ o n (pw_run (pw_bz μ o2 n2) p k)))) k (fun j => (nI j, (s, pw_lay σ (pw_abs μ o n (pw_run (pw_bz μ o2 n2) p j))))) rfl (fun j hj => ?_) ?_).trans rfl
  · have hO := po_abs (pw_run (pw_bz μ o2 n2) p j) μ n h (by rw [pw_run_len]; omega)
    rw [pw_run_len] at hO
    have hc := h.2.2.2.2
    dsimp only
    rw [if_neg (nI_ge hj (by omega)), pw_obj, pw_ob_of h2.1]
    simp only [Option.map_some, Option.bind_some]
    rw [nI_add, po_at' (off _).1 (by omega), pw_obj, pw_ob_of h.1]
    simp only [Option.map_some, Option.bind_some]
    rw [po_addByte hO (by omega)]
    simp only [Option.bind_some]
    rw [nI_1, (off _).2, pw_run, pw_abs_snoc, pw_run_len]
  · dsimp only
    rw [if_pos (nI_le (Nat.le_refl _) (by omega))]
end
