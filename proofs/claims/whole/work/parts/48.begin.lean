/-! ===== the start: every cell is made where the shape has it ===== -/
/-- the memories at the start: every number is 0, references ρ -/
def pm (ρ : Nat → Nat → Option Nat) : pw_Mem := (fun _ _ => 0, fun _ _ => 0, ρ)
/-- the shape of what is made so far -/
def pw_up (σ : Nat → Option pw_Sh) (z : Nat) : Nat → Option pw_Sh := fun a => if a < z then σ a else none
def pw_df (sh : pw_Sh) : va_E := match sh with
  | .inl q => .inl (q.1, pw_ar (pm fun _ _ => none) 0 q.1 q.2)
  | .inr ci => .inr (ci, pw_fs (pm fun _ _ => none) 0 ci)
/-- a reference is set -/
def pr (ρ : Nat → Nat → Option Nat) (a k : Nat) (x : Option Nat) : Nat → Nat → Option Nat := fun b j => if b = a ∧ j = k then x else ρ b j
theorem pm_sR (ρ : Nat → Nat → Option Nat) (a k : Nat) (x : Option Nat) : pw_sR (pm ρ) a k x = pm (pr ρ a k x) := rfl
theorem pm_sI (ρ : Nat → Nat → Option Nat) (a k : Nat) : pw_sI (pm ρ) a k 0 = pm ρ := by
  unfold pw_sI pm
  refine Prod.ext (funext fun b => funext fun j => ?_) rfl
  dsimp only
  split <;> rfl
section
variable {σ : Nat → Option pw_Sh} {ρ : Nat → Nat → Option Nat} {z : Nat} {w1 : Option Nat}
theorem pw_up_of {a : Nat} {sh : pw_Sh} (ha : a < z) (h : σ a = some sh) : pw_up σ z a = some sh := (if_pos ha).trans h
theorem pw_new {sh : pw_Sh} {e : va_E} (hs : σ z = some sh) (hρ : ∀ k, ρ z k = none) (he : e = pw_df sh) : aw_add (w1, pw_lay (pw_up σ z) (pm ρ)) z e = (some (z + 1), pw_lay (pw_up σ (z + 1)) (pm ρ)) := by
  unfold aw_add
  refine Prod.ext rfl (funext fun q => ?_)
  dsimp only
  by_cases hq : q = z
  · subst hq
    have h1 : pw_up σ (q + 1) q = some sh := pw_up_of (Nat.lt_succ_self q) hs
    have h2 : (pm ρ).2.2 q = fun _ => none := funext hρ
    rw [if_pos rfl, he]
    unfold pw_lay
    rw [h1]
    cases sh with
    | inl p =>
      show some (Sum.inl (p.1, pw_ar (pm fun _ _ => none) 0 p.1 p.2)) = some (Sum.inl (p.1, pw_ar (pm ρ) q p.1 p.2))
      unfold pw_ar
      rw [h2]
      rfl
    | inr c =>
      show some (Sum.inr (c, pw_fs (pm fun _ _ => none) 0 c)) = some (Sum.inr (c, pw_fs (pm ρ) q c))
      have h3 : pw_fs (pm fun _ _ => none) 0 c = pw_fs (pm ρ) q c := by
        unfold pw_fs
        congr 1
        funext k kd
        unfold pw_v
        rw [h2]
        rfl
      rw [h3]
  · rw [if_neg hq]
    have h1 : pw_up σ z q = pw_up σ (z + 1) q := by
      unfold pw_up
      by_cases h : q < z
      · rw [if_pos h, if_pos (by omega)]
      · rw [if_neg h, if_neg (by omega)]
    unfold pw_lay
    rw [h1]
theorem ps_O {o cap : Nat} (ho : o < z) (h1 : σ o = some (.inr 3)) (h2 : σ z = some (.inl (0, cap))) (hc : cap ≤ 104) (hρ : ∀ k, ρ z k = none) : f_O_init (some z, pw_lay (pw_up σ z) (pm ρ)) (some o) (nI cap) = some (some (z + 1), pw_lay (pw_up σ (z + 1)) (pm (pr ρ o 0 (some z)))) := by
  have hcap : aw_cap (nI cap) 104 = some cap := by
    unfold aw_cap
    rw [if_neg (nI_pos (by omega)), nI_clamp (by omega), if_pos hc]
  unfold f_O_init
  simp only [Option.bind_some]
  rw [hcap]
  simp only [Option.bind_some]
  rw [pw_new (e := .inl (0, (cap, .inl (fun _ => 0)))) h2 hρ rfl, pp_O_0, pw_ob_of (pw_up_of (by omega) h1)]
  simp only [Option.map_some, Option.bind_some]
  rw [pm_sR, pp_O_1, pw_ob_of (pw_up_of (by omega) h1)]
  simp only [Option.map_some, Option.bind_some]
  rw [pm_sI]
/-- the records of a file are made -/
def pr_recs (ρ : Nat → Nat → Option Nat) (a z : Nat) : Nat → Nat → Nat → Option Nat
  | 0 => ρ
  | k + 1 => pr (pr_recs ρ a z k) a k (some (z + k))
theorem pr_recs_off {a b : Nat} (h : b ≠ a) : ∀ n, pr_recs ρ a z n b = ρ b
  | 0 => rfl
  | n + 1 => by
    funext j
    show (if b = a ∧ j = n then _ else pr_recs ρ a z n b j) = ρ b j
    rw [if_neg (fun hc => h hc.1), pr_recs_off h n]
theorem ps_succ {j n : Nat} (h : j < n) (hn : n < 2 ^ 30) : aw_succ (nI j) n = some () := by
  unfold aw_succ
  rw [nI_1, nI_clamp (by omega), nI_clamp (by omega)]
  exact if_pos ⟨rfl, h⟩
theorem ps_le {j n : Nat} (h : j ≤ n) (hn : n < 2 ^ 30) : aw_le (nI j) n = some () := by
  unfold aw_le
  rw [nI_clamp (by omega)]
  exact if_pos h
/-- references after a file f is made, from z on -/
def pr_F (ρ : Nat → Nat → Option Nat) (f z : Nat) : Nat → Nat → Option Nat := pr_recs (pr (pr (pr (pr (pr ρ z 0 (some (z + 1))) f 0 (some z)) (z + 2) 0 (some (z + 3))) f 1 (some (z + 2))) f 2 (some (z + 4))) (z + 4) (z + 5) 11
theorem ps_F {f : Nat} (hf : f < z) (h0 : σ f = some (.inr 6)) (h1 : σ z = some (.inr 3)) (h2 : σ (z + 1) = some (.inl (0, 100))) (h3 : σ (z + 2) = some (.inr 3)) (h4 : σ (z + 3) = some (.inl (0, 104))) (h5 : σ (z + 4) = some (.inl (4, 11))) (h6 : ∀ k, k < 11 → σ (z + 5 + k) = some (.inr 4)) (hρ : ∀ a, z ≤ a → ∀ k, ρ a k = none) :
    f_F_init (some z, pw_lay (pw_up σ z) (pm ρ)) (some f) = some (some (z + 16), pw_lay (pw_up σ (z + 16)) (pm (pr_F ρ f z))) := by
  have off : ∀ (ρ : Nat → Nat → Option Nat) (a k : Nat) (x : Option Nat) (b : Nat), b ≠ a → ∀ j, pr ρ a k x b j = ρ b j := fun ρ a k x b h j => if_neg fun hc => h hc.1
  unfold f_F_init
  simp only [Option.bind_some]
  rw [pw_new (e := .inr (3, [.null, .int 0])) h1 (hρ z (Nat.le_refl _)) rfl, show (100 : Int32) = nI 100 from rfl, ps_O (by omega) h1 h2 (by decide) (hρ _ (by omega))]
  simp only [Option.bind_some]
  rw [pp_F_0, pw_ob_of (pw_up_of (by omega) h0)]
  simp only [Option.map_some, Option.bind_some]
  rw [pm_sR, pw_new (e := .inr (3, [.null, .int 0])) h3 (fun k => by rw [off _ _ _ _ _ (by omega), off _ _ _ _ _ (by omega)]; exact hρ _ (by omega) k) rfl, show (104 : Int32) = nI 104 from rfl, ps_O (by omega) h3 h4 (by decide) (fun k => by rw [off _ _ _ _ _ (by omega), off _ _ _ _ _ (by omega)]; exact hρ _ (by omega) k)]
  simp only [Option.bind_some]
  rw [pp_F_1, pw_ob_of (pw_up_of (by omega) h0)]
  simp only [Option.map_some, Option.bind_some]
  rw [pm_sR, pw_new (e := .inl (4, 11, .inr (.inr (.inr (.inr (fun _ => none)))))) h5 (fun k => by rw [off _ _ _ _ _ (by omega), off _ _ _ _ _ (by omega), off _ _ _ _ _ (by omega), off _ _ _ _ _ (by omega)]; exact hρ _ (by omega) k) rfl, pp_F_2, pw_ob_of (pw_up_of (by omega) h0)]
  simp only [Option.map_some, Option.bind_some]
  rw [pm_sR]
  generalize hρ5 : pr (pr (pr (pr (pr ρ z 0 (some (z + 1))) f 0 (some z)) (z + 2) 0 (some (z + 3))) f 1 (some (z + 2))) f 2 (some (z + 4)) = ρ5
  have hf2 : ρ5 f 2 = some (z + 4) := by rw [← hρ5]; exact if_pos ⟨rfl, rfl⟩
  have hup : ∀ a, z + 5 ≤ a → ∀ k, ρ5 a k = none := fun a ha k => by
    rw [← hρ5, off _ _ _ _ _ (by omega), off _ _ _ _ _ (by omega), off _ _ _ _ _ (by omega), off _ _ _ _ _ (by omega), off _ _ _ _ _ (by omega)]
    exact hρ _ (by omega) k
  refine (pw_loop (nI 11, (some (z + 5 + 11), pw_lay (pw_up σ (z + 5 + 11)) (pm (pr_recs ρ5 (z + 4) (z + 5) 11)))) 11 (fun j => (nI j, (some (z + 5 + j), pw_lay (pw_up σ (z + 5 + j)) (pm (pr_recs ρ5 (z + 4) (z + 5) j))))) rfl (fun j hj => ?_) ?_).trans ?_
  · have hg : (pm (pr_recs ρ5 (z + 4) (z + 5) j)).2.2 f 2 = some (z + 4) := by
      show pr_recs ρ5 (z + 4) (z + 5) j f 2 = _
      rw [pr_recs_off (by omega)]
      exact hf2
    dsimp only
    rw [ps_le (by omega) (by decide)]
    simp only [Option.bind_some]
    rw [pg_F_2, pw_ob_of (pw_up_of (by omega) h0)]
    simp only [Option.map_some, Option.bind_some, hg]
    rw [pw_len, pw_aa_of (pw_up_of (by omega) h5)]
    simp only [Option.map_some, Option.bind_some]
    rw [show Int32.ofNat 11 = nI 11 from rfl, if_neg (nI_ge hj (by decide)), ps_succ hj (by decide)]
    simp only [Option.bind_some]
    rw [pw_new (e := .inr (4, [.null, .int 0, .long 0, .int 0, .null])) (h6 j hj) (fun k => by rw [pr_recs_off (by omega)]; exact hup _ (by omega) k) rfl]
    unfold f_R_init
    simp only [Option.bind_some]
    rw [pw_obj, pw_ob_of (pw_up_of (by omega) (h6 j hj))]
    simp only [Option.map_some, Option.bind_some]
    rw [pw_sR_4, pw_aa_of (pw_up_of (by omega) h5)]
    simp only [Option.bind_some]
    rw [aw_ix_nI hj (by decide)]
    simp only [Option.map_some, Option.bind_some]
    rw [pm_sR, nI_1]
    rfl
  · have hg : (pm (pr_recs ρ5 (z + 4) (z + 5) 11)).2.2 f 2 = some (z + 4) := by
      show pr_recs ρ5 (z + 4) (z + 5) 11 f 2 = _
      rw [pr_recs_off (by omega)]
      exact hf2
    dsimp only
    rw [ps_le (by omega) (by decide)]
    simp only [Option.bind_some]
    rw [pg_F_2, pw_ob_of (pw_up_of (by omega) h0)]
    simp only [Option.map_some, Option.bind_some, hg]
    rw [pw_len, pw_aa_of (pw_up_of (by omega) h5)]
    simp only [Option.map_some, Option.bind_some]
    rw [show Int32.ofNat 11 = nI 11 from rfl, if_pos (nI_le (Nat.le_refl _) (by decide))]
  · unfold pr_F
    rw [hρ5]
end
