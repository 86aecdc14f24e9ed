/-! ===== a file begins anew, loses power ===== -/
/-- a row of n bytes is cut to k -/
def pw_cutm (μ : pw_Mem) (o n k : Nat) : pw_Mem := if k < n then pw_sI μ o 1 (nI k) else μ
theorem pw_cutm_R {μ : pw_Mem} {o n k : Nat} : (pw_cutm μ o n k).2 = μ.2 := by
  unfold pw_cutm
  split <;> rfl
theorem pw_cutm_off {μ : pw_Mem} {o n k a : Nat} (h : a ≠ o) : (pw_cutm μ o n k).1 a = μ.1 a := by
  unfold pw_cutm
  split
  · exact pw_sI_off h
  · rfl
section
variable {σ : Nat → Option pw_Sh} {μ : pw_Mem} {s : Option Nat} {f : Nat}
theorem pf_losePower (h : pw_blk σ f) (hp : pw_Fp μ.2.2 f) {B : List Int32} (hB : pw_OL σ μ (f + 1) 100 B) {y m : Nat} (hy : μ.1 f 5 = nI y) (hm : y + m < 2 ^ 31) :
    f_F_losePower (s, pw_lay σ μ) (some f) (nI m) = some (s, pw_lay σ (pw_sI (pw_cutm μ (f + 1) B.length (y + m)) f 5 (nI (B.take (y + m)).length))) := by
  have hc := po_cutTo (s := s) hB.1 hm
  have hl := pl_cut hB (y + m)
  unfold f_F_losePower
  rw [pg_F_0, pw_ob_of h.1, pg_F_5, pw_ob_of h.1]
  simp only [Option.map_some, Option.bind_some, hp.1, hy]
  rw [pw_obj, pw_ob_of h.2.1, nI_add, hc]
  simp only [Option.map_some, Option.bind_some]
  rw [pw_obj, pw_ob_of h.1, pf_syncAll h (by have e : (pw_cutm μ (f + 1) B.length (y + m)).2 = μ.2 := pw_cutm_R; unfold pw_cutm at e; rw [e]; exact hp) hl.1]
  rfl
theorem pf_begin (h : pw_blk σ f) (hp : pw_Fp μ.2.2 f) {B H : List Int32} (hB : pw_OL σ μ (f + 1) 100 B) (hH : pw_OL σ μ (f + 3) 104 H) (x : Int32) :
    f_F_begin (s, pw_lay σ μ) (some f) x = some (s, pw_lay σ (pw_sI (pw_sI (pw_sI (pw_cutm (pw_cutm μ (f + 1) B.length 0) (f + 3) H.length 0) f 3 0) f 4 x) f 5 0)) := by
  have e1 : (pw_cutm μ (f + 1) B.length 0).2 = μ.2 := pw_cutm_R
  have hH2 : pw_OL σ (pw_cutm μ (f + 1) B.length 0) (f + 3) 104 H := pl_keep hH (pw_cutm_off (by omega)) (pw_cutm_off (by omega)) (by rw [e1])
  have c1 : f_O_cutTo (s, pw_lay σ μ) (some (f + 1)) (nI 0) = some (s, pw_lay σ (pw_cutm μ (f + 1) B.length 0)) := po_cutTo hB.1 (by decide)
  have c2 : f_O_cutTo (s, pw_lay σ (pw_cutm μ (f + 1) B.length 0)) (some (f + 3)) (nI 0) = some (s, pw_lay σ (pw_cutm (pw_cutm μ (f + 1) B.length 0) (f + 3) H.length 0)) := po_cutTo hH2.1 (by decide)
  unfold f_F_begin
  rw [pg_F_0, pw_ob_of h.1]
  simp only [Option.map_some, Option.bind_some, hp.1]
  rw [pw_obj, pw_ob_of h.2.1, show (0 : Int32) = nI 0 from rfl, c1]
  simp only [Option.map_some, Option.bind_some]
  rw [pg_F_1, pw_ob_of h.1]
  simp only [Option.map_some, Option.bind_some, e1, hp.2.1]
  rw [pw_obj, pw_ob_of h.2.2.2.1, c2]
  simp only [Option.map_some, Option.bind_some]
  rw [pp_F_3, pw_ob_of h.1]
  simp only [Option.map_some, Option.bind_some]
  rw [pp_F_4, pw_ob_of h.1]
  simp only [Option.map_some, Option.bind_some]
  rw [pp_F_5, pw_ob_of h.1]
  rfl
end
