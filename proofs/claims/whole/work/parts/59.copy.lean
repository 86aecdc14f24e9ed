/-! ===== a record is copied to another file ===== -/
section
variable {σ : Nat → Option pw_Sh} {μ : pw_Mem} {s : Option Nat} {f g r : Nat}
theorem pf_addBytesTo (hf : pw_blk σ f) (hg : pw_blk σ g) (hgp : pw_Fp μ.2.2 g) (hr : σ r = some (.inr 4)) (hh : μ.2.2 r 0 = some g) {p k x v : Nat} (hpl : μ.1 r 1 = nI p) (hk : k < 8) (hrk : μ.2.1 r 2 = lN (pn_rank k x)) (hv : μ.1 r 3 = nI v) (hv2 : v < 256) (hpb : p < 2 ^ 20)
    {B C : List Int32} (hB : pw_OL σ μ (f + 1) 100 B) (hC : pw_OL σ μ (g + 1) 100 C) (d : g ≠ f) (d2 : g + 1 ≠ f) (d3 : g ≠ f + 1) (room : B.length + pn_len k v ≤ 100) :
    f_R_addBytesTo (s, pw_lay σ μ) (some r) (some (f + 1)) = some (s, pw_lay σ (pw_abs μ (f + 1) B.length (pw_run (fun i => C.getD i 0) p (pn_len k v)))) := by
  have hz := (pf_recSize (s := s) hr hk hrk hv (by omega)).2
  unfold f_R_addBytesTo
  rw [pg_R_0, pw_ob_of hr]
  simp only [Option.map_some, Option.bind_some, hh]
  rw [if_neg (fun hc => nomatch hc), pw_obj, pw_ob_of hg.1]
  simp only [Option.map_some, Option.bind_some]
  rw [pf_bytes hg hgp, Option.bind_some, pg_R_1, pw_ob_of hr]
  simp only [Option.map_some, Option.bind_some, hpl]
  rw [pw_obj, pw_ob_of hr]
  simp only [Option.map_some, Option.bind_some]
  rw [hz, Option.bind_some, pw_obj, pw_ob_of hf.2.1]
  simp only [Option.map_some, Option.bind_some]
  rw [po_addFrom hB.1 hC.1 (by omega) (by omega) (by omega) room (by omega), hC.bz]
  rfl
theorem pf_appendCopy (hf : pw_blk σ f) (hfp : pw_Fp μ.2.2 f) (hg : pw_blk σ g) (hgp : pw_Fp μ.2.2 g) (hr : σ r = some (.inr 4)) (hh : μ.2.2 r 0 = some g) {p k x v c : Nat} (hpl : μ.1 r 1 = nI p) (hk : k < 8) (hrk : μ.2.1 r 2 = lN (pn_rank k x)) (hv : μ.1 r 3 = nI v) (hv2 : v < 256) (hpb : p < 2 ^ 20)
    {B C : List Int32} (hB : pw_OL σ μ (f + 1) 100 B) (hC : pw_OL σ μ (g + 1) 100 C) (d : g ≠ f) (d2 : g + 1 ≠ f) (d3 : g ≠ f + 1) (room : B.length + pn_len k v ≤ 100) (hc : μ.1 f 3 = nI c) (hc2 : c < 11) (r1 : r ≠ f + 1) (r2 : r ≠ f + 2) :
    f_F_appendCopy (s, pw_lay σ μ) (some f) (some r) = some (s, pw_lay σ (pw_note (pw_abs μ (f + 1) B.length (pw_run (fun i => C.getD i 0) p (pn_len k v))) f c (nI B.length) (lN (pn_rank k x)) (nI v) (some r))) := by
  unfold f_F_appendCopy
  rw [pg_F_0, pw_ob_of hf.1]
  simp only [Option.map_some, Option.bind_some, hfp.1]
  rw [pw_obj, pw_ob_of hf.2.1]
  simp only [Option.map_some, Option.bind_some]
  rw [po_size hB.1, Option.bind_some, pw_obj, pw_ob_of hr]
  simp only [Option.map_some, Option.bind_some]
  rw [pf_addBytesTo hf hg hgp hr hh hpl hk hrk hv hv2 hpb hB hC d d2 d3 room, Option.bind_some, pg_R_2, pw_ob_of hr]
  simp only [Option.map_some, Option.bind_some]
  rw [pg_R_3, pw_ob_of hr]
  simp only [Option.map_some, Option.bind_some]
  rw [pw_abs_R, hrk, pw_abs_off r1 r2, hv, pw_obj, pw_ob_of hf.1]
  simp only [Option.map_some, Option.bind_some]
  rw [pf_note hf (c := c) (by rw [pw_abs_R]; exact hfp) (by rw [pw_abs_off (by omega) (by omega)]; exact hc) hc2]
  rfl
end
