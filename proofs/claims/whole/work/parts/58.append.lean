/-! ===== a file appends a record, on ===== -/
section
variable {σ : Nat → Option pw_Sh} {μ : pw_Mem} {s : Option Nat} {f : Nat}
theorem pw_s4_R {μ : pw_Mem} {o p : Nat} {v : Int64} : ∀ k, (pw_s4 μ o p v k).2 = μ.2
  | 0 => rfl
  | k + 1 => pw_s4_R k
theorem pw_s4_off {μ : pw_Mem} {o p a : Nat} {v : Int64} (h : a ≠ o + 1) : ∀ k, (pw_s4 μ o p v k).1 a = μ.1 a
  | 0 => rfl
  | k + 1 => (pw_sI_off h).trans (pw_s4_off h k)
/-- the sum of a record that has been appended to B -/
def pw_rs (B : List Int32) (L : List Int32) : Int64 := pw_sum (fun i => (B ++ L.map (fun x => x &&& 255)).getD i 0) (B.length + 4) (L.length - 4)
theorem pf_append (h : pw_blk σ f) (hp : pw_Fp μ.2.2 f) {B : List Int32} (hB : pw_OL σ μ (f + 1) 100 B) {c : Nat} (hc : μ.1 f 3 = nI c) (hc2 : c < 11) (time : Int32) {k x v : Nat} (h1 : 1 ≤ k) (h4 : k ≤ 4) (hx : x < 2 ^ (8 * k)) (hv : v < 256) (value : Int64) (hr : B.length + pn_len k v ≤ 100) :
    f_F_append (s, pw_lay σ μ) (some f) time (lN (pn_rank k x)) value (nI v) = some (some (f + 6 + c), (s, pw_lay σ (pw_note (pw_s4 (pw_abs μ (f + 1) B.length (pw_rb time k (lN x) v value)) (f + 1) B.length (pw_rs B (pw_rb time k (lN x) v value)) 4) f c (nI B.length) (lN (pn_rank k x)) (nI v) none))) := by
  have hg : ∀ L, aw_gR (s, pw_lay σ (pw_abs μ (f + 1) B.length L)) (some f) 6 0 = some (some (f + 1)) := fun L => by
    rw [pg_F_0, pw_ob_of h.1]
    show some ((pw_abs μ (f + 1) B.length L).2.2 f 0) = _
    rw [pw_abs_R, hp.1]
  have ho : ∀ L, aw_obj (s, pw_lay σ (pw_abs μ (f + 1) B.length L)) (some (f + 1)) 3 = some (f + 1, pw_fs (pw_abs μ (f + 1) B.length L) (f + 1) 3) := fun L => by
    rw [pw_obj, pw_ob_of h.2.1]
    rfl
  have hn : ∀ (L : List Int32) (y : Int64) (j : Nat), B.length + L.length + j ≤ 100 → f_O_addNumber (s, pw_lay σ (pw_abs μ (f + 1) B.length L)) (some (f + 1)) y (nI j) = some (s, pw_lay σ (pw_abs μ (f + 1) B.length (L ++ pw_nb y j))) := fun L y j hl => by
    rw [po_addNumber y j _ (B.length + L.length) (po_abs L μ B.length hB.1 (by omega)) hl, pw_abs_app]
  have hy : ∀ (L : List Int32) (y : Int32), B.length + L.length + 1 ≤ 100 → f_O_addByte (s, pw_lay σ (pw_abs μ (f + 1) B.length L)) (some (f + 1)) y = some (s, pw_lay σ (pw_abs μ (f + 1) B.length (L ++ [y]))) := fun L y hl => by
    rw [po_addByte (po_abs L μ B.length hB.1 (by omega)) (by omega), pw_abs_snoc]
  have hlen := pw_rb_len time k (lN x) v value
  have hL : pw_rb time k (lN x) v value = ((((([] ++ pw_nb 0 4) ++ pw_nb time.toInt64 2) ++ [nI k]) ++ [nI v]) ++ pw_nb (lN x) k) ++ pw_nb value (if v = 255 then 0 else v) := by
    unfold pw_rb
    simp only [List.nil_append, List.append_assoc]
  have hq : 8 + k + (if v = 255 then 0 else v) = pn_len k v := rfl
  have h0 : pw_abs μ (f + 1) B.length [] = μ := rfl
  unfold f_F_append
  rw [← h0, hg []]
  simp only [Option.bind_some]
  rw [ho [], show f_O_size (s, pw_lay σ (pw_abs μ (f + 1) B.length [])) (some (f + 1)) = some (nI B.length) from po_size hB.1, pk_size (by omega)]
  simp only [Option.bind_some]
  rw [show (4 : Int32) = nI 4 from rfl, show (2 : Int32) = nI 2 from rfl, hn [] 0 4 (by simp only [List.length_nil]; omega)]
  simp only [Option.bind_some]
  rw [hg, Option.bind_some, ho, Option.bind_some, hn _ _ 2 (by simp only [List.length_append, List.length_nil, pw_nb_len]; omega)]
  simp only [Option.bind_some]
  rw [hg, Option.bind_some, ho, Option.bind_some, hy _ _ (by simp only [List.length_append, List.length_nil, pw_nb_len]; omega)]
  simp only [Option.bind_some]
  rw [hg, Option.bind_some, ho, Option.bind_some, hy _ _ (by simp only [List.length_append, List.length_nil, List.length_singleton, pw_nb_len]; omega)]
  simp only [Option.bind_some]
  rw [hg, Option.bind_some, pk_number h1 h4 hx, Option.bind_some, ho, Option.bind_some, hn _ _ k (by simp only [List.length_append, List.length_nil, List.length_singleton, pw_nb_len]; omega)]
  simp only [Option.bind_some]
  rw [hg, Option.bind_some, pk_valueBytes (by omega), Option.bind_some, ho, Option.bind_some, hn _ _ (if v = 255 then 0 else v) (by simp only [List.length_append, List.length_nil, List.length_singleton, pw_nb_len]; omega), ← hL]
  simp only [Option.bind_some]
  have hOL := pl_abs (pw_rb time k (lN x) v value) μ B hB (by rw [hlen]; exact hr)
  have hO := po_abs (pw_rb time k (lN x) v value) μ B.length hB.1 (by rw [hlen]; exact hr)
  rw [hg, Option.bind_some, Option.bind_some, Option.bind_some, ho, Option.bind_some, po_size hO, Option.bind_some, Option.bind_some, nI_add, show B.length + (pw_rb time k (lN x) v value).length = B.length + 4 + ((pw_rb time k (lN x) v value).length - 4) by rw [hlen]; omega, pl_sum hOL (by rw [hlen]; omega)]
  simp only [Option.bind_some]
  rw [po_setSum hO (by rw [hlen]; omega)]
  simp only [Option.bind_some]
  rw [pw_obj, pw_ob_of h.1]
  simp only [Option.map_some, Option.bind_some]
  rw [pf_note h (c := c) (by rw [pw_s4_R, pw_abs_R]; exact hp) (by rw [pw_s4_off (by omega), pw_abs_off (by omega) (by omega)]; exact hc) hc2]
  rfl
end
