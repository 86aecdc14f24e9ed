/-! ===== a file notes a record, looks at a sum, begins anew ===== -/
/-- the record c of the file f is noted -/
def pw_note (μ : pw_Mem) (f c : Nat) (p : Int32) (rank : Int64) (v : Int32) (src : Option Nat) : pw_Mem :=
  pw_sR (pw_sI (pw_sL (pw_sI (pw_sR (pw_sI μ f 3 (nI (c + 1))) (f + 6 + c) 0 (some f)) (f + 6 + c) 1 p) (f + 6 + c) 2 rank) (f + 6 + c) 3 v) (f + 6 + c) 4 src
section
variable {σ : Nat → Option pw_Sh} {μ : pw_Mem} {s : Option Nat} {f : Nat}
theorem pf_note (h : pw_blk σ f) (hp : pw_Fp μ.2.2 f) {c : Nat} (hc : μ.1 f 3 = nI c) (hc2 : c < 11) (p : Int32) (rank : Int64) (v : Int32) (src : Option Nat) :
    f_F_note (s, pw_lay σ μ) (some f) p rank v src = some (some (f + 6 + c), (s, pw_lay σ (pw_note μ f c p rank v src))) := by
  have hR : σ (f + 6 + c) = some (.inr 4) := h.2.2.2.2.2.2 c hc2
  unfold f_F_note
  rw [pg_F_3, pw_ob_of h.1, pg_F_2, pw_ob_of h.1]
  simp only [Option.map_some, Option.bind_some, hc, hp.2.2.1]
  rw [pw_len, pw_aa_of h.2.2.2.2.2.1]
  simp only [Option.map_some, Option.bind_some]
  rw [show Int32.ofNat 11 = nI 11 from rfl, if_neg (nI_ge hc2 (by decide)), nI_1, pp_F_3, pw_ob_of h.1]
  simp only [Option.map_some, Option.bind_some]
  rw [pg_F_2, pw_ob_of h.1, pg_F_3, pw_ob_of h.1]
  simp only [Option.map_some, Option.bind_some]
  rw [pw_sI_R, hp.2.2.1, pw_sI_I, if_pos ⟨rfl, rfl⟩, nI_pred, pw_aR_4, pw_aa_of h.2.2.2.2.2.1]
  simp only [Option.bind_some]
  rw [aw_ix_nI hc2 (by decide)]
  simp only [Option.map_some, Option.bind_some]
  rw [pw_sI_R, hp.2.2.2.2.2 c hc2, show (va_rf (some f)) = va_rf (some f) from rfl, pp_R_0, pw_ob_of hR]
  simp only [Option.map_some, Option.bind_some]
  rw [pp_R_1, pw_ob_of hR]
  simp only [Option.map_some, Option.bind_some]
  rw [pp_R_2, pw_ob_of hR]
  simp only [Option.map_some, Option.bind_some]
  rw [pp_R_3, pw_ob_of hR]
  simp only [Option.map_some, Option.bind_some]
  rw [pp_R_4, pw_ob_of hR]
  rfl
theorem pf_rightSum (h : pw_blk σ f) (hp : pw_Fp μ.2.2 f) {B : List Int32} (hB : pw_OL σ μ (f + 1) 100 B) {p n : Nat} (hn : 4 ≤ n) (hpn : p + n < 2 ^ 30) :
    f_F_hasRightSum (s, pw_lay σ μ) (some f) (nI p) (nI n) = some (if pw_num (fun i => B.getD i 0) p 4 = pw_sum (fun i => B.getD i 0) (p + 4) (n - 4) then 1 else 0) := by
  unfold f_F_hasRightSum
  rw [pg_F_0, pw_ob_of h.1]
  simp only [Option.map_some, Option.bind_some, hp.1]
  rw [pw_obj, pw_ob_of h.2.1, show (4 : Int32) = nI 4 from rfl, pl_number hB (by omega)]
  simp only [Option.map_some, Option.bind_some]
  rw [nI_add, nI_add, show p + n = p + 4 + (n - 4) by omega, pl_sum hB (by omega)]
  simp only [Option.bind_some]
  by_cases he : pw_num (fun i => B.getD i 0) p 4 = pw_sum (fun i => B.getD i 0) (p + 4) (n - 4)
  · rw [if_pos ((lg_cmp_eq _ _).mpr he), if_pos he, Option.bind_some, aw_zz_1]
    rfl
  · rw [if_neg (fun hc => he ((lg_cmp_eq _ _).mp hc)), if_neg he, Option.bind_some, aw_zz_0]
    rfl
end
