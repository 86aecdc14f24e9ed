/-! ===== rows of bytes ===== -/
def pw_n8 (x : Int32) : Int32 := x.toInt8.toInt32.toInt8.toInt32
/-- an Octets at o with its cells behind it: cap of them, n in use -/
def pw_O (σ : Nat → Option pw_Sh) (μ : pw_Mem) (o cap n : Nat) : Prop := σ o = some (.inr 3) ∧ σ (o + 1) = some (.inl (0, cap)) ∧ μ.2.2 o 0 = some (o + 1) ∧ μ.1 o 1 = nI n ∧ n ≤ cap ∧ cap ≤ 104
/-- its byte i -/
def pw_b (μ : pw_Mem) (o i : Nat) : Int32 := μ.1 (o + 1) i &&& 255
/-- a byte more -/
def pw_ab (μ : pw_Mem) (o n : Nat) (x : Int32) : pw_Mem := pw_sI (pw_sI μ (o + 1) n (pw_n8 x)) o 1 (nI (n + 1))
theorem aw_zz_0 : aw_zz 0 = some () := by decide +kernel
theorem aw_zz_1 : aw_zz 1 = some () := by decide +kernel
theorem pw_sI_I {μ : pw_Mem} {a k b j : Nat} {x : Int32} : (pw_sI μ a k x).1 b j = if b = a ∧ j = k then x else μ.1 b j := rfl
theorem pw_sI_L {μ : pw_Mem} {a k : Nat} {x : Int32} : (pw_sI μ a k x).2.1 = μ.2.1 := rfl
theorem pw_sI_R {μ : pw_Mem} {a k : Nat} {x : Int32} : (pw_sI μ a k x).2.2 = μ.2.2 := rfl
section
variable {σ : Nat → Option pw_Sh} {μ : pw_Mem} {s : Option Nat} {o cap n : Nat}
theorem po_at (h : pw_O σ μ o cap n) {i : Nat} (hi : i < 2 ^ 31) : f_O_at (s, pw_lay σ μ) (some o) (nI i) = some (if i < n then pw_b μ o i else 0) := by
  obtain ⟨h1, h2, h3, h4, h5, h6⟩ := h
  unfold f_O_at
  rw [if_neg (nI_pos hi), pg_O_1, pw_ob_of h1, pg_O_0, pw_ob_of h1]
  simp only [Option.map_some, Option.bind_some, h3, h4]
  by_cases hn : i < n
  · rw [if_neg (nI_ge hn (by omega)), pw_aI_0, pw_aa_of h2]
    simp only [Option.bind_some]
    rw [aw_ix_nI (by omega) (by omega), if_pos hn]
    rfl
  · rw [if_pos (nI_le (by omega) hi), if_neg hn]
    rfl
theorem po_has (h : pw_O σ μ o cap n) (i : Int32) : f_O_has (s, pw_lay σ μ) (some o) i = some (if ¬ i < 0 ∧ ¬ nI n ≤ i then 1 else 0) := by
  obtain ⟨h1, h2, h3, h4, h5, h6⟩ := h
  unfold f_O_has
  rw [pg_O_1, pw_ob_of h1]
  simp only [Option.map_some, Option.bind_some, h4]
  by_cases hi : i < 0
  · rw [if_pos hi, if_neg (fun hc => hc.1 hi), Option.bind_some, aw_zz_0]
    rfl
  · rw [if_neg hi]
    by_cases hn : nI n ≤ i
    · rw [if_pos hn, if_neg (fun hc => hc.2 hn), Option.bind_some, aw_zz_0]
      rfl
    · rw [if_neg hn, if_pos ⟨hi, hn⟩, Option.bind_some, aw_zz_1]
      rfl
theorem po_size (h : pw_O σ μ o cap n) : f_O_size (s, pw_lay σ μ) (some o) = some (nI n) := by
  obtain ⟨h1, h2, h3, h4, h5, h6⟩ := h
  unfold f_O_size
  rw [pg_O_1, pw_ob_of h1]
  simp only [Option.map_some, Option.bind_some, h4]
theorem po_room (h : pw_O σ μ o cap n) {k : Nat} (hk : k < 2 ^ 30) : f_O_hasRoomFor (s, pw_lay σ μ) (some o) (nI k) = some (if n + k ≤ cap then 1 else 0) := by
  obtain ⟨h1, h2, h3, h4, h5, h6⟩ := h
  unfold f_O_hasRoomFor
  rw [pg_O_1, pw_ob_of h1, pg_O_0, pw_ob_of h1]
  simp only [Option.map_some, Option.bind_some, h3, h4]
  rw [pw_len, pw_aa_of h2]
  simp only [Option.map_some, Option.bind_some]
  rw [nI_add, show Int32.ofNat cap = nI cap from rfl]
  by_cases hn : n + k ≤ cap
  · rw [if_neg (nI_nlt hn (by omega)), if_pos hn, Option.bind_some, aw_zz_1]
    rfl
  · rw [if_pos (nI_lt (by omega) (by omega)), if_neg hn, Option.bind_some, aw_zz_0]
    rfl
theorem po_addByte (h : pw_O σ μ o cap n) (hn : n < cap) (x : Int32) : f_O_addByte (s, pw_lay σ μ) (some o) x = some (s, pw_lay σ (pw_ab μ o n x)) := by
  obtain ⟨h1, h2, h3, h4, h5, h6⟩ := h
  unfold f_O_addByte
  rw [pg_O_1, pw_ob_of h1, pg_O_0, pw_ob_of h1]
  simp only [Option.map_some, Option.bind_some, h3, h4]
  rw [pw_len, pw_aa_of h2]
  simp only [Option.map_some, Option.bind_some]
  rw [show Int32.ofNat cap = nI cap from rfl, if_neg (nI_ge hn (by omega)), pw_sI_0, pw_aa_of h2]
  simp only [Option.bind_some]
  rw [aw_ix_nI (by omega) (by omega)]
  simp only [Option.map_some, Option.bind_some]
  rw [pg_O_1, pw_ob_of h1]
  simp only [Option.map_some, Option.bind_some]
  rw [pw_sI_I, if_neg (fun hc => absurd hc.1 (by omega)), h4, nI_1, pp_O_1, pw_ob_of h1]
  rfl
theorem po_ab (h : pw_O σ μ o cap n) (hn : n < cap) (x : Int32) : pw_O σ (pw_ab μ o n x) o cap (n + 1) := by
  obtain ⟨h1, h2, h3, h4, h5, h6⟩ := h
  exact ⟨h1, h2, h3, if_pos ⟨rfl, rfl⟩, hn, h6⟩
theorem po_cutTo (h : pw_O σ μ o cap n) {k : Nat} (hk : k < 2 ^ 31) : f_O_cutTo (s, pw_lay σ μ) (some o) (nI k) = some (s, pw_lay σ (if k < n then pw_sI μ o 1 (nI k) else μ)) := by
  obtain ⟨h1, h2, h3, h4, h5, h6⟩ := h
  unfold f_O_cutTo
  rw [if_neg (nI_pos hk), pg_O_1, pw_ob_of h1]
  simp only [Option.map_some, Option.bind_some, h4]
  by_cases hn : k < n
  · rw [if_neg (nI_ge hn (by omega)), pp_O_1, pw_ob_of h1, if_pos hn]
    rfl
  · rw [if_pos (nI_le (by omega) hk), if_neg hn]
    rfl
theorem po_set (h : pw_O σ μ o cap n) {i : Nat} (hi : i < n) (x : Int32) : f_O_set (s, pw_lay σ μ) (some o) (nI i) x = some (s, pw_lay σ (pw_sI μ (o + 1) i (pw_n8 x))) := by
  have hh := po_has (s := s) h (nI i)
  obtain ⟨h1, h2, h3, h4, h5, h6⟩ := h
  unfold f_O_set
  rw [pw_obj, pw_ob_of h1, hh, if_pos ⟨nI_pos (by omega), nI_ge hi (by omega)⟩]
  simp only [Option.map_some, Option.bind_some]
  rw [if_neg (by decide), pg_O_0, pw_ob_of h1]
  simp only [Option.map_some, Option.bind_some, h3]
  rw [pw_sI_0, pw_aa_of h2]
  simp only [Option.bind_some]
  rw [aw_ix_nI (by omega) (by omega)]
  rfl
/-- bytes more, one by one -/
def pw_abs (μ : pw_Mem) (o n : Nat) : List Int32 → pw_Mem
  | [] => μ
  | x :: t => pw_abs (pw_ab μ o n x) o (n + 1) t
theorem po_abs : ∀ (l : List Int32) (μ : pw_Mem) (n : Nat), pw_O σ μ o cap n → n + l.length ≤ cap → pw_O σ (pw_abs μ o n l) o cap (n + l.length)
  | [], _, _, h, _ => h
  | x :: t, μ, n, h, hl => by
    rw [List.length_cons] at hl ⊢
    have := po_abs t (pw_ab μ o n x) (n + 1) (po_ab h (by omega) x) (by omega)
    rw [show n + (t.length + 1) = n + 1 + t.length by omega]
    exact this
/-- the bytes of a number, the highest first -/
def pw_nb (v : Int64) : Nat → List Int32
  | 0 => []
  | k + 1 => (aj_lushr v (8 * nI k)).toInt32 :: pw_nb v k
theorem pw_nb_len (v : Int64) : ∀ k, (pw_nb v k).length = k
  | 0 => rfl
  | k + 1 => by rw [pw_nb, List.length_cons, pw_nb_len v k]
theorem po_addNumber (v : Int64) : ∀ (k : Nat) (μ : pw_Mem) (n : Nat), pw_O σ μ o cap n → n + k ≤ cap → f_O_addNumber (s, pw_lay σ μ) (some o) v (nI k) = some (s, pw_lay σ (pw_abs μ o n (pw_nb v k))) := by
  intro k μ n h hk
  unfold f_O_addNumber
  have key : ∀ (k : Nat) (μ : pw_Mem) (n : Nat), pw_O σ μ o cap n → n + k ≤ cap → aw_wh (σ := Int32 × aw_W) (τ := Int32 × aw_W) (fun s1 =>
    if s1.1 < 0 then
      some (.inr (s1.1, s1.2))
    else
      (aw_obj s1.2 (some o) 3).bind fun v2 =>
      (f_O_addByte s1.2 (some o) ((aj_lushr v ((8 : Int32) * s1.1)).toInt32)).bind fun v3 =>
      some (.inl (s1.1 + (-1), v3))) (nI k - (1 : Int32), (s, pw_lay σ μ)) = some (-1, s, pw_lay σ (pw_abs μ o n (pw_nb v k))) := by
    intro k
    induction k with
    | zero =>
      intro μ n h hk
      refine aw_wh_out ?_
      dsimp only
      rw [if_pos (by decide)]
      rfl
    | succ k ih =>
      intro μ n h hk
      rw [nI_pred]
      refine (aw_wh_in (s' := (nI k - 1, (s, pw_lay σ (pw_ab μ o n ((aj_lushr v (8 * nI k)).toInt32))))) ?_).trans (ih _ (n + 1) (po_ab h (by omega) _) (by omega))
      dsimp only
      rw [if_neg (nI_pos (by have := h.2.2.2.2; omega)), pw_obj, pw_ob_of h.1]
      simp only [Option.map_some, Option.bind_some]
      rw [po_addByte h (by omega)]
      simp only [Option.bind_some]
      rw [show nI k + (-1) = nI k - 1 from (Int32.sub_eq_add_neg (nI k) 1).symm]
  rw [key k μ n h hk]
  rfl
end
