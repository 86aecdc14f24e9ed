/-! ===== the start, on: shelf, directory, merger, store, reference ===== -/
/-- the cells of a file at f -/
def pw_blk (σ : Nat → Option pw_Sh) (f : Nat) : Prop := σ f = some (.inr 6) ∧ σ (f + 1) = some (.inr 3) ∧ σ (f + 2) = some (.inl (0, 100)) ∧ σ (f + 3) = some (.inr 3) ∧ σ (f + 4) = some (.inl (0, 104)) ∧ σ (f + 5) = some (.inl (4, 11)) ∧ ∀ k, k < 11 → σ (f + 6 + k) = some (.inr 4)
/-- k files are made from z on, and stand in the array a -/
def pr_files (ρ : Nat → Nat → Option Nat) (a z : Nat) : Nat → Nat → Nat → Option Nat
  | 0 => ρ
  | k + 1 => pr (pr_F (pr_files ρ a z k) (z + 17 * k) (z + 17 * k + 1)) a k (some (z + 17 * k))
section
variable {σ : Nat → Option pw_Sh} {ρ : Nat → Nat → Option Nat} {z : Nat} {w1 : Option Nat}
theorem pr_off {a k b : Nat} {x : Option Nat} (h : b ≠ a) : pr ρ a k x b = ρ b := funext fun j => if_neg fun hc => h hc.1
theorem pr_F_off {f b : Nat} (h : b < f ∨ f + 17 ≤ b) : pr_F ρ f (f + 1) b = ρ b := by
  unfold pr_F
  rw [pr_recs_off (by omega), pr_off (by omega), pr_off (by omega), pr_off (by omega), pr_off (by omega), pr_off (by omega)]
theorem pr_files_off {a b : Nat} (ha : b ≠ a) : ∀ k, (b < z ∨ z + 17 * k ≤ b) → pr_files ρ a z k b = ρ b
  | 0, _ => rfl
  | k + 1, h => by
    show pr (pr_F (pr_files ρ a z k) (z + 17 * k) (z + 17 * k + 1)) a k (some (z + 17 * k)) b = ρ b
    rw [pr_off ha, pr_F_off (by omega), pr_files_off ha k (by omega)]
theorem pr_up {a k : Nat} {x : Option Nat} (ha : a < z) (h : ∀ b, z ≤ b → ∀ j, ρ b j = none) : ∀ b, z ≤ b → ∀ j, pr ρ a k x b j = none := fun b hb j => by
  rw [pr_off (by omega)]
  exact h b hb j
theorem ps_S_loop {a oo : Nat} (haz : a < z) (ho : ∀ y, z ≤ y → pw_up σ y oo = some (.inr 5)) (hoz : oo < z) (hoa : oo ≠ a) (hρo : ρ oo 0 = some a) (ha : σ a = some (.inl (5, 6))) (hb : ∀ i, i < 6 → pw_blk σ (z + 17 * i)) (hρ : ∀ b, z ≤ b → ∀ k, ρ b k = none) :
    aw_wh (σ := Int32 × aw_W) (τ := Int32 × aw_W) (fun s4 =>
    (aw_le s4.1 6).bind fun _ =>
    (aw_gR s4.2 (some oo) 5 0).bind fun v5 =>
    (aw_len s4.2 v5 5).bind fun v6 =>
    if v6 ≤ s4.1 then
      some (.inr (s4.1, s4.2))
    else
      (aw_succ s4.1 6).bind fun _ =>
      (aw_gR s4.2 (some oo) 5 0).bind fun v7 =>
      (s4.2.1).bind fun v8 =>
      (f_F_init (aw_add s4.2 v8 (.inr (6, [.null, .null, .null, .int 0, .int 0, .int 0]))) (some v8)).bind fun v9 =>
      (aw_obj v9 (some v8) 6).bind fun v10 =>
      (aw_sR v9 v7 5 s4.1 (some v8)).bind fun v11 =>
      some (.inl (s4.1 + 1, v11))) ((0 : Int32), (some z, pw_lay (pw_up σ z) (pm ρ))) = some (nI 6, (some (z + 102), pw_lay (pw_up σ (z + 102)) (pm (pr_files ρ a z 6)))) := by
  refine aw_wh_run 6 (fun j => (nI j, (some (z + 17 * j), pw_lay (pw_up σ (z + 17 * j)) (pm (pr_files ρ a z j))))) (fun j hj => ?_) ?_
  · have hg : (pm (pr_files ρ a z j)).2.2 oo 0 = some a := by
      show pr_files ρ a z j oo 0 = _
      rw [pr_files_off hoa j (Or.inl hoz)]
      exact hρo
    obtain ⟨b0, b1, b2, b3, b4, b5, b6⟩ := hb j hj
    dsimp only
    rw [ps_le (by omega) (by decide)]
    simp only [Option.bind_some]
    rw [pg_S_0, pw_ob_of (ho _ (by omega))]
    simp only [Option.map_some, Option.bind_some, hg]
    rw [pw_len, pw_aa_of (pw_up_of (by omega) ha)]
    simp only [Option.map_some, Option.bind_some]
    rw [show Int32.ofNat 6 = nI 6 from rfl, if_neg (nI_ge hj (by decide)), ps_succ hj (by decide)]
    simp only [Option.bind_some]
    have hup : ∀ b, z + 17 * j ≤ b → ∀ k, pr_files ρ a z j b k = none := fun b hb9 k => by
      rw [pr_files_off (by omega) j (Or.inr hb9)]
      exact hρ b (by omega) k
    rw [pw_new (e := .inr (6, [.null, .null, .null, .int 0, .int 0, .int 0])) b0 (hup _ (Nat.le_refl _)) rfl, ps_F (Nat.lt_succ_self _) b0 b1 b2 b3 b4 b5 (fun k hk => by rw [show z + 17 * j + 1 + 5 + k = z + 17 * j + 6 + k by omega]; exact b6 k hk) (fun b hb9 k => hup b (by omega) k)]
    simp only [Option.bind_some]
    rw [pw_obj, pw_ob_of (pw_up_of (by omega) b0)]
    simp only [Option.map_some, Option.bind_some]
    rw [pw_sR_5, pw_aa_of (pw_up_of (by omega) ha)]
    simp only [Option.bind_some]
    rw [aw_ix_nI hj (by decide)]
    simp only [Option.map_some, Option.bind_some]
    rw [pm_sR, nI_1, show z + 17 * j + 1 + 16 = z + 17 * (j + 1) by omega]
    rfl
  · have hg : (pm (pr_files ρ a z 6)).2.2 oo 0 = some a := by
      show pr_files ρ a z 6 oo 0 = _
      rw [pr_files_off hoa 6 (Or.inl hoz)]
      exact hρo
    dsimp only
    rw [ps_le (by omega) (by decide)]
    simp only [Option.bind_some]
    rw [pg_S_0, pw_ob_of (ho _ (by omega))]
    simp only [Option.map_some, Option.bind_some, hg]
    rw [pw_len, pw_aa_of (pw_up_of (by omega) ha)]
    simp only [Option.map_some, Option.bind_some]
    rw [show Int32.ofNat 6 = nI 6 from rfl, if_pos (nI_le (Nat.le_refl _) (by decide))]
theorem ps_G_loop {a oo : Nat} (haz : a < z) (ho : ∀ y, z ≤ y → pw_up σ y oo = some (.inr 2)) (hoz : oo < z) (hoa : oo ≠ a) (hρo : ρ oo 0 = some a) (ha : σ a = some (.inl (5, 6))) (hb : ∀ i, i < 6 → pw_blk σ (z + 17 * i)) (hρ : ∀ b, z ≤ b → ∀ k, ρ b k = none) :
    aw_wh (σ := Int32 × aw_W) (τ := Int32 × aw_W) (fun s4 =>
    (aw_le s4.1 6).bind fun _ =>
    (aw_gR s4.2 (some oo) 2 0).bind fun v5 =>
    (aw_len s4.2 v5 5).bind fun v6 =>
    if v6 ≤ s4.1 then
      some (.inr (s4.1, s4.2))
    else
      (aw_succ s4.1 6).bind fun _ =>
      (aw_gR s4.2 (some oo) 2 0).bind fun v7 =>
      (s4.2.1).bind fun v8 =>
      (f_F_init (aw_add s4.2 v8 (.inr (6, [.null, .null, .null, .int 0, .int 0, .int 0]))) (some v8)).bind fun v9 =>
      (aw_obj v9 (some v8) 6).bind fun v10 =>
      (aw_sR v9 v7 5 s4.1 (some v8)).bind fun v11 =>
      some (.inl (s4.1 + 1, v11))) ((0 : Int32), (some z, pw_lay (pw_up σ z) (pm ρ))) = some (nI 6, (some (z + 102), pw_lay (pw_up σ (z + 102)) (pm (pr_files ρ a z 6)))) := by
  refine aw_wh_run 6 (fun j => (nI j, (some (z + 17 * j), pw_lay (pw_up σ (z + 17 * j)) (pm (pr_files ρ a z j))))) (fun j hj => ?_) ?_
  · have hg : (pm (pr_files ρ a z j)).2.2 oo 0 = some a := by
      show pr_files ρ a z j oo 0 = _
      rw [pr_files_off hoa j (Or.inl hoz)]
      exact hρo
    obtain ⟨b0, b1, b2, b3, b4, b5, b6⟩ := hb j hj
    dsimp only
    rw [ps_le (by omega) (by decide)]
    simp only [Option.bind_some]
    rw [pg_G_0, pw_ob_of (ho _ (by omega))]
    simp only [Option.map_some, Option.bind_some, hg]
    rw [pw_len, pw_aa_of (pw_up_of (by omega) ha)]
    simp only [Option.map_some, Option.bind_some]
    rw [show Int32.ofNat 6 = nI 6 from rfl, if_neg (nI_ge hj (by decide)), ps_succ hj (by decide)]
    simp only [Option.bind_some]
    have hup : ∀ b, z + 17 * j ≤ b → ∀ k, pr_files ρ a z j b k = none := fun b hb9 k => by
      rw [pr_files_off (by omega) j (Or.inr hb9)]
      exact hρ b (by omega) k
    rw [pw_new (e := .inr (6, [.null, .null, .null, .int 0, .int 0, .int 0])) b0 (hup _ (Nat.le_refl _)) rfl, ps_F (Nat.lt_succ_self _) b0 b1 b2 b3 b4 b5 (fun k hk => by rw [show z + 17 * j + 1 + 5 + k = z + 17 * j + 6 + k by omega]; exact b6 k hk) (fun b hb9 k => hup b (by omega) k)]
    simp only [Option.bind_some]
    rw [pw_obj, pw_ob_of (pw_up_of (by omega) b0)]
    simp only [Option.map_some, Option.bind_some]
    rw [pw_sR_5, pw_aa_of (pw_up_of (by omega) ha)]
    simp only [Option.bind_some]
    rw [aw_ix_nI hj (by decide)]
    simp only [Option.map_some, Option.bind_some]
    rw [pm_sR, nI_1, show z + 17 * j + 1 + 16 = z + 17 * (j + 1) by omega]
    rfl
  · have hg : (pm (pr_files ρ a z 6)).2.2 oo 0 = some a := by
      show pr_files ρ a z 6 oo 0 = _
      rw [pr_files_off hoa 6 (Or.inl hoz)]
      exact hρo
    dsimp only
    rw [ps_le (by omega) (by decide)]
    simp only [Option.bind_some]
    rw [pg_G_0, pw_ob_of (ho _ (by omega))]
    simp only [Option.map_some, Option.bind_some, hg]
    rw [pw_len, pw_aa_of (pw_up_of (by omega) ha)]
    simp only [Option.map_some, Option.bind_some]
    rw [show Int32.ofNat 6 = nI 6 from rfl, if_pos (nI_le (Nat.le_refl _) (by decide))]
theorem ps_S {oo : Nat} (ho : oo < z) (h0 : σ oo = some (.inr 5)) (h1 : σ z = some (.inl (5, 6))) (hb : ∀ i, i < 6 → pw_blk σ (z + 1 + 17 * i)) (hρ : ∀ b, z ≤ b → ∀ k, ρ b k = none) :
    f_S_init (some z, pw_lay (pw_up σ z) (pm ρ)) (some oo) = some (some (z + 103), pw_lay (pw_up σ (z + 103)) (pm (pr (pr_files (pr ρ oo 0 (some z)) z (z + 1) 6) oo 2 none))) := by
  unfold f_S_init
  simp only [Option.bind_some]
  rw [pw_new (e := .inl (5, 6, .inr (.inr (.inr (.inr (fun _ => none)))))) h1 (hρ z (Nat.le_refl _)) rfl, pp_S_0, pw_ob_of (pw_up_of (by omega) h0)]
  simp only [Option.map_some, Option.bind_some]
  rw [pm_sR, ps_S_loop (a := z) (oo := oo) (Nat.lt_succ_self z) (fun y hy => pw_up_of (by omega) h0) (by omega) (by omega) (if_pos ⟨rfl, rfl⟩) h1 hb (pr_up (by omega) (fun b hb9 k => hρ b (by omega) k))]
  simp only [Option.bind_some]
  rw [pp_S_1, pw_ob_of (pw_up_of (by omega) h0)]
  simp only [Option.map_some, Option.bind_some]
  rw [pm_sI, pp_S_2, pw_ob_of (pw_up_of (by omega) h0)]
  simp only [Option.map_some, Option.bind_some]
  rw [pm_sR, pp_S_3, pw_ob_of (pw_up_of (by omega) h0)]
  simp only [Option.map_some, Option.bind_some]
  rw [pm_sI]
theorem ps_G {oo : Nat} (ho : oo < z) (h0 : σ oo = some (.inr 2)) (h1 : σ z = some (.inl (5, 6))) (hb : ∀ i, i < 6 → pw_blk σ (z + 1 + 17 * i)) (hρ : ∀ b, z ≤ b → ∀ k, ρ b k = none) :
    f_G_init (some z, pw_lay (pw_up σ z) (pm ρ)) (some oo) = some (some (z + 103), pw_lay (pw_up σ (z + 103)) (pm (pr_files (pr ρ oo 0 (some z)) z (z + 1) 6))) := by
  unfold f_G_init
  simp only [Option.bind_some]
  rw [pw_new (e := .inl (5, 6, .inr (.inr (.inr (.inr (fun _ => none)))))) h1 (hρ z (Nat.le_refl _)) rfl, pp_G_0, pw_ob_of (pw_up_of (by omega) h0)]
  simp only [Option.map_some, Option.bind_some]
  rw [pm_sR, ps_G_loop (a := z) (oo := oo) (Nat.lt_succ_self z) (fun y hy => pw_up_of (by omega) h0) (by omega) (by omega) (if_pos ⟨rfl, rfl⟩) h1 hb (pr_up (by omega) (fun b hb9 k => hρ b (by omega) k))]
  simp only [Option.bind_some]
  rw [pp_G_2, pw_ob_of (pw_up_of (by omega) h0)]
  simp only [Option.map_some, Option.bind_some]
  rw [pm_sI]
theorem ps_D {oo : Nat} (ho : oo < z) (h0 : σ oo = some (.inr 1)) (h1 : σ z = some (.inl (4, 66))) (hρ : ∀ b, z ≤ b → ∀ k, ρ b k = none) :
    f_D_init (some z, pw_lay (pw_up σ z) (pm ρ)) (some oo) = some (some (z + 1), pw_lay (pw_up σ (z + 1)) (pm (pr ρ oo 0 (some z)))) := by
  unfold f_D_init
  simp only [Option.bind_some]
  rw [pw_new (e := .inl (4, 66, .inr (.inr (.inr (.inr (fun _ => none)))))) h1 (hρ z (Nat.le_refl _)) rfl, pp_D_0, pw_ob_of (pw_up_of (by omega) h0)]
  simp only [Option.map_some, Option.bind_some]
  rw [pm_sR, pp_D_1, pw_ob_of (pw_up_of (by omega) h0)]
  simp only [Option.map_some, Option.bind_some]
  rw [pm_sI]
end
