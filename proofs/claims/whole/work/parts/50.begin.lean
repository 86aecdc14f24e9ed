/-! ===== the layout, and the start's meaning ===== -/
def pw_f (k : Nat) : Option pw_Sh := match k with
  | 0 => some (.inr 6)
  | 1 => some (.inr 3)
  | 2 => some (.inl (0, 100))
  | 3 => some (.inr 3)
  | 4 => some (.inl (0, 104))
  | 5 => some (.inl (4, 11))
  | _ => some (.inr 4)
def pw_ma : List pw_Sh := [.inl (1, 12), .inl (1, 12), .inl (1, 12), .inl (1, 1200), .inl (3, 12), .inl (1, 12), .inl (1, 1440), .inl (1, 12), .inl (1, 144), .inl (1, 144), .inl (1, 144), .inl (1, 144), .inl (1, 144), .inl (2, 80), .inl (1, 80), .inl (1, 80), .inl (1, 80)]
def pw_τ (i : Nat) : Option pw_Sh := if i = 0 then some (.inr 0) else if i = 1 then some (.inr 5) else if i = 2 then some (.inl (5, 6)) else if i < 105 then pw_f ((i - 3) % 17) else if i = 105 then some (.inr 1) else if i = 106 then some (.inl (4, 66)) else if i = 107 then some (.inr 2) else if i = 108 then some (.inl (5, 6)) else if i < 211 then pw_f ((i - 109) % 17) else if i = 211 then some (.inr 7) else if i < 229 then pw_ma[i - 212]? else if i = 229 then some (.inl (2, 1)) else none
def pw_σ (base : Nat) : Nat → Option pw_Sh := fun a => if a < base then none else pw_τ (a - base)
theorem pw_σ_at (base i : Nat) : pw_σ base (base + i) = pw_τ i := by
  unfold pw_σ
  rw [if_neg (by omega), Nat.add_sub_cancel_left]
theorem pw_σ_0 (base : Nat) : pw_σ base base = pw_τ 0 := pw_σ_at base 0
theorem pw_τ_blk (i : Nat) (h : i < 6) : ∀ c, c < 17 → pw_τ (3 + 17 * i + c) = pw_f c ∧ pw_τ (109 + 17 * i + c) = pw_f c := by
  have h9 : ∀ i : Fin 6, ∀ c : Fin 17, pw_τ (3 + 17 * i.val + c.val) = pw_f c.val ∧ pw_τ (109 + 17 * i.val + c.val) = pw_f c.val := by decide +kernel
  exact fun c hc => h9 ⟨i, h⟩ ⟨c, hc⟩
theorem pw_f_rec (k : Nat) : pw_f (6 + k) = some (.inr 4) := by
  rw [Nat.add_comm]
  rfl
theorem pw_blk_of {base d : Nat} (h : ∀ c, c < 17 → pw_τ (d + c) = pw_f c) : pw_blk (pw_σ base) (base + d) := by
  have g : ∀ c, c < 17 → pw_σ base (base + d + c) = pw_f c := fun c hc => by
    rw [Nat.add_assoc, pw_σ_at]
    exact h c hc
  exact ⟨g 0 (by decide), g 1 (by decide), g 2 (by decide), g 3 (by decide), g 4 (by decide), g 5 (by decide), fun k hk => by rw [Nat.add_assoc, g (6 + k) (by omega)]; exact pw_f_rec k⟩
theorem pw_blk_S {base i : Nat} (h : i < 6) : pw_blk (pw_σ base) (base + 3 + 17 * i) := by
  rw [Nat.add_assoc]
  exact pw_blk_of fun c hc => (pw_τ_blk i h c hc).1
theorem pw_blk_G {base i : Nat} (h : i < 6) : pw_blk (pw_σ base) (base + 109 + 17 * i) := by
  rw [Nat.add_assoc]
  exact pw_blk_of fun c hc => (pw_τ_blk i h c hc).2
/-- references of the store when it is made -/
def pr_A (base : Nat) : Nat → Nat → Option Nat :=
  pr (pr_files (pr (pr (pr (pr (pr (pr_files (pr (fun _ _ => none) (base + 1) 0 (some (base + 2))) (base + 2) (base + 3) 6) (base + 1) 2 none) base 0 (some (base + 1))) (base + 105) 0 (some (base + 106))) base 1 (some (base + 105))) (base + 107) 0 (some (base + 108))) (base + 108) (base + 109) 6) base 2 (some (base + 107))
theorem ps_A (base : Nat) : f_A_init (some (base + 1), pw_lay (pw_up (pw_σ base) (base + 1)) (pm fun _ _ => none)) (some base) = some (some (base + 211), pw_lay (pw_up (pw_σ base) (base + 211)) (pm (pr_A base))) := by
  have hA : ∀ y, base < y → pw_ob (pw_up (pw_σ base) y) (some base) 0 = some base := fun y hy => pw_ob_of (pw_up_of hy (pw_σ_0 base))
  unfold f_A_init
  simp only [Option.bind_some]
  rw [pw_new (e := .inr (5, [.null, .int 0, .null, .int 0])) (pw_σ_at base 1) (fun _ => rfl) rfl, ps_S (oo := base + 1) (z := base + 1 + 1) (Nat.lt_succ_self _) (pw_σ_at base 1) (pw_σ_at base 2) (fun i hi => pw_blk_S hi) (fun _ _ _ => rfl)]
  simp only [Option.bind_some]
  rw [pp_A_0, hA _ (by omega)]
  simp only [Option.map_some, Option.bind_some]
  rw [pm_sR]
  have u1 : ∀ b, base + 105 ≤ b → ∀ k, pr (pr (pr_files (pr (fun _ _ => none) (base + 1) 0 (some (base + 1 + 1))) (base + 1 + 1) (base + 1 + 1 + 1) 6) (base + 1) 2 none) base 0 (some (base + 1)) b k = none := by
    intro b hb k
    rw [pr_off (by omega), pr_off (by omega), pr_files_off (by omega) 6 (by omega), pr_off (by omega)]
  generalize hρ1 : pr (pr (pr_files (pr (fun _ _ => none) (base + 1) 0 (some (base + 1 + 1))) (base + 1 + 1) (base + 1 + 1 + 1) 6) (base + 1) 2 none) base 0 (some (base + 1)) = ρ1 at u1 ⊢
  rw [show base + 1 + 1 + 103 = base + 105 from rfl, pw_new (e := .inr (1, [.null, .int 0])) (pw_σ_at base 105) (u1 _ (Nat.le_refl _)) rfl, ps_D (oo := base + 105) (z := base + 105 + 1) (Nat.lt_succ_self _) (pw_σ_at base 105) (pw_σ_at base 106) (fun b hb k => u1 b (by omega) k)]
  simp only [Option.bind_some]
  rw [pp_A_1, hA _ (by omega)]
  simp only [Option.map_some, Option.bind_some]
  rw [pm_sR]
  have u2 : ∀ b, base + 107 ≤ b → ∀ k, pr (pr ρ1 (base + 105) 0 (some (base + 105 + 1))) base 1 (some (base + 105)) b k = none := pr_up (by omega) (pr_up (by omega) (fun b hb k => u1 b (by omega) k))
  rw [show base + 105 + 1 + 1 = base + 107 from rfl, pw_new (e := .inr (2, [.null, .int 0, .int 0, .int 0, .int 0])) (pw_σ_at base 107) (u2 _ (Nat.le_refl _)) rfl, ps_G (oo := base + 107) (z := base + 107 + 1) (Nat.lt_succ_self _) (pw_σ_at base 107) (pw_σ_at base 108) (fun i hi => pw_blk_G hi) (fun b hb k => u2 b (by omega) k)]
  simp only [Option.bind_some]
  rw [pp_A_2, hA _ (by omega)]
  simp only [Option.map_some, Option.bind_some]
  rw [pm_sR, pp_A_3, hA _ (by omega)]
  simp only [Option.map_some, Option.bind_some]
  rw [pm_sI, pp_A_4, hA _ (by omega)]
  simp only [Option.map_some, Option.bind_some]
  rw [pm_sI, ← hρ1]
  rfl
def pr_M (ρ : Nat → Nat → Option Nat) (m : Nat) : Nat → Nat → Option Nat :=
  pr (pr (pr (pr (pr (pr (pr (pr (pr (pr (pr (pr (pr (pr (pr (pr (pr ρ m 2 (some (m + 1))) m 3 (some (m + 2))) m 4 (some (m + 3))) m 5 (some (m + 4))) m 6 (some (m + 5))) m 7 (some (m + 6))) m 8 (some (m + 7))) m 9 (some (m + 8))) m 10 (some (m + 9))) m 11 (some (m + 10))) m 12 (some (m + 11))) m 13 (some (m + 12))) m 14 (some (m + 13))) m 16 (some (m + 14))) m 17 (some (m + 15))) m 18 (some (m + 16))) m 19 (some (m + 17))
/-- an array of the reference is made -/
theorem ps_M1 {σ : Nat → Option pw_Sh} {ρ : Nat → Nat → Option Nat} {m z k : Nat} {sh : pw_Sh} {e : va_E} {F : aw_W → Option aw_W} {R : Option aw_W} (h0 : σ m = some (.inr 7)) (hm : m < z) (hk : (pw_kd 7)[k]? = some 2) (hs : σ z = some sh) (hρ : ∀ b, m + 1 ≤ b → ∀ j, ρ b j = none) (he : e = pw_df sh)
    (hF : (∀ b, m + 1 ≤ b → ∀ j, pr ρ m k (some z) b j = none) → F (some (z + 1), pw_lay (pw_up σ (z + 1)) (pm (pr ρ m k (some z)))) = R) : (aw_pV (aw_add (some z, pw_lay (pw_up σ z) (pm ρ)) z e) (some m) 7 k (va_rf (some z))).bind F = R := by
  rw [pw_new hs (hρ z hm) he, pw_pR hk, pw_ob_of (pw_up_of (by omega) h0)]
  exact hF (pr_up (Nat.lt_succ_self m) hρ)
