/-! ===== the store and the reference beside each other ===== -/
section
variable {μ μ' : pw_Mem} {I I' : mN} {L L' : mL} {ρ ρ' : mQ} {s : Option Nat} {b N : Nat} {φ φ' : Nat → qf} {sl : List Nat} {cnt : Nat} {act : Bool} {last time : Nat} {cl : Bool} {D : List (Nat × Nat × Nat)} {ou fs : List Nat} {made taken af ar : Nat} {src : Nat → Nat → Nat × Nat} {M : qM}
theorem KR.out (h : KR μ b φ sl cnt act last time cl D ou made taken af ar src) (hm : 0 < taken → made ≤ 6) (g : pw_fr μ μ' (fun a => b + 211 ≤ a)) : KR μ' b φ sl cnt act last time cl D ou made taken af ar src := by
  have hz := fun f hf => h.Z (f := f) hf
  obtain ⟨b1, b2, b3, b4⟩ := h.bo
  obtain ⟨hA, hS, hE, hF, hG, hX⟩ := h
  refine ⟨hA.fr g (by omega), hS.fr g (by omega) (by omega), hE.fr g (by omega) (by omega), hF.fr g (fun a ha hc => by omega), hG.fr g (by omega) (by omega), fun ht => (hX ht).fr g (fun o j ho hj hc => ?_)⟩
  have := hm ht
  dsimp only at ho hj
  have hB := b3 o (by omega)
  have h11 := (hz _ hB).2.2
  obtain ⟨i, hi, e⟩ := hB
  omega
theorem MR.ext (h : MR I L b φ sl cnt act last time cl D ou made taken af ar src) (hI : ∀ a, b + 211 ≤ a → I' a = I a) (hL : L' (b + 225) = L (b + 225)) : MR I' L' b φ sl cnt act last time cl D ou made taken af ar src := by
  have e211 := hI (b + 211) (by omega)
  have e212 := hI (b + 212) (by omega)
  have e213 := hI (b + 213) (by omega)
  have e214 := hI (b + 214) (by omega)
  have e215 := hI (b + 215) (by omega)
  have e216 := hI (b + 216) (by omega)
  have e217 := hI (b + 217) (by omega)
  have e218 := hI (b + 218) (by omega)
  have e219 := hI (b + 219) (by omega)
  have e220 := hI (b + 220) (by omega)
  have e221 := hI (b + 221) (by omega)
  have e222 := hI (b + 222) (by omega)
  have e223 := hI (b + 223) (by omega)
  have e224 := hI (b + 224) (by omega)
  have e226 := hI (b + 226) (by omega)
  have e227 := hI (b + 227) (by omega)
  have e228 := hI (b + 228) (by omega)
  unfold MR mFl mF mDir mMg mOut mW at h ⊢
  rw [e211, e212, e213, e214, e215, e216, e217, e218, e219, e220, e221, e222, e223, e224, e226, e227, e228, hL]
  exact h
/-- the store and the reference agree -/
def SIM (b N : Nat) (w : aw_W) : Prop := ∃ (s : Option Nat) (I : mN) (L : mL) (ρ : mQ) (φ : Nat → qf) (sl : List Nat) (cnt : Nat) (act : Bool) (last time : Nat) (cl : Bool) (D : List (Nat × Nat × Nat)) (ou : List Nat) (made taken af ar : Nat) (src : Nat → Nat → Nat × Nat), w = (s, pw_lay (pw_σ b) (I, L, ρ)) ∧ KR (I, L, ρ) b φ sl cnt act last time cl D ou made taken af ar src ∧ MR I L b φ sl cnt act last time cl D ou made taken af ar src ∧ mP b ρ ∧ KW b φ sl cnt act last time cl D ou made taken af ar src ∧ last ≤ N
/-- the two sides come together again -/
theorem sim_of (hK : KR (I, L, ρ) b φ sl cnt act last time cl D ou made taken af ar src) (hM : MR I' L' b φ sl cnt act last time cl D ou made taken af ar src) (hP : mP b ρ) (hW : KW b φ sl cnt act last time cl D ou made taken af ar src) (hl : last ≤ N) (hN : N < 100000) (g : mfr I I' (fun a _ => mCM b a)) (gL : ∀ a, a ≠ b + 225 → L' a = L a) : SIM b N (s, pw_lay (pw_σ b) (I', L', ρ)) := by
  have hm := (hW.bits hK (by omega)).2.1
  refine ⟨s, I', L', ρ, φ, sl, cnt, act, last, time, cl, D, ou, made, taken, af, ar, src, rfl, hK.out hm (fun a ha => ⟨?_, gL a (by omega), rfl⟩), hM, hP, hW, hl⟩
  funext k
  exact g a k (fun hc => by unfold mCM at hc; omega)
theorem sim_0 (hK : KR (I, L, ρ) b φ sl cnt act last time cl D ou made taken af ar src) (hM : MR I L b φ sl cnt act last time cl D ou made taken af ar src) (hP : mP b ρ) (hW : KW b φ sl cnt act last time cl D ou made taken af ar src) (hl : last ≤ N) (hN : N < 100000) (x : Int32) : SIM b N (s, pw_lay (pw_σ b) (uI I (b + 211) 0 x, L, ρ)) := sim_of hK (hM.f0 x) hP hW hl hN (mfr.uI (by unfold mCM; omega)) (fun _ _ => rfl)
/-- a cell is laid down -/
theorem KR.cell (h : KR μ b φ sl cnt act last time cl D ou made taken af ar src) (hm : 0 < taken → made ≤ 6) (x : Int64) : KR (pw_sL μ (b + 229) 0 x) b φ sl cnt act last time cl D ou made taken af ar src := h.out hm (pw_fr.sL (by omega))
theorem sL_225 (μ : pw_Mem) (b : Nat) (x : Int64) : (pw_sL μ (b + 229) 0 x).2.1 (b + 225) = μ.2.1 (b + 225) := pw_sL_off (by omega)
theorem sL_229 (μ : pw_Mem) (b : Nat) (x : Int64) : (pw_sL μ (b + 229) 0 x).2.1 (b + 229) 0 = x := if_pos ⟨rfl, rfl⟩
theorem aL_get : aw_aL (s, pw_lay (pw_σ b) μ) (some (b + 229)) 2 (0 : Int32) = some (μ.2.1 (b + 229) 0) := by
  rw [pw_aL_2, pw_aa_of (pw_σ_at b 229)]
  simp only [Option.bind_some]
  rw [show (0 : Int32) = nI 0 from rfl, aw_ix_nI (by decide) (by decide)]
  rfl
/-- the store's call leaves the reference -/
theorem MR.cls (h : MR I L b φ sl cnt act last time cl D ou made taken af ar src) (g : pw_fr (I, L, ρ) μ' (pw_inC b)) : MR μ'.1 μ'.2.1 b φ sl cnt act last time cl D ou made taken af ar src := h.ext (fun a ha => (g a (by unfold pw_inC; omega)).1) ((g _ (by unfold pw_inC; omega)).2.1)
theorem mP.cls (h : mP b ρ) (g : pw_fr (I, L, ρ) μ' (pw_inC b)) : mP b μ'.2.2 := fun k hk => by
  rw [(g (b + 211) (by unfold pw_inC; omega)).2.2]
  exact h k hk
theorem M_thr : f_M_thrown (s, pw_lay (pw_σ b) (I, L, ρ)) (some (b + 211)) = some (I (b + 211) 0) := by
  unfold f_M_thrown
  rw [mf_0]
  rfl
end
