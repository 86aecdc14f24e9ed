/-! ===== the reference is made ===== -/
theorem ps_M {σ : Nat → Option pw_Sh} {ρ : Nat → Nat → Option Nat} {m : Nat} (h0 : σ m = some (.inr 7)) (ha : ∀ i q, pw_ma[i]? = some q → σ (m + (i + 1)) = some q) (hρ : ∀ b, m + 1 ≤ b → ∀ k, ρ b k = none) :
    f_M_init (some (m + 1), pw_lay (pw_up σ (m + 1)) (pm ρ)) (some m) = some (some (m + 18), pw_lay (pw_up σ (m + 18)) (pm (pr_M ρ m))) := by
  unfold f_M_init pr_M
  simp only [Option.bind_some]
  refine ps_M1 (e := .inl (1, (12, .inl (fun _ => 0)))) (sh := .inl (1, 12)) h0 (by omega) rfl (ha 0 _ rfl) hρ rfl (fun u0 => ?_)
  simp only [Option.bind_some]
  refine ps_M1 (e := .inl (1, (12, .inl (fun _ => 0)))) (sh := .inl (1, 12)) h0 (by omega) rfl (ha 1 _ rfl) u0 rfl (fun u1 => ?_)
  simp only [Option.bind_some]
  refine ps_M1 (e := .inl (1, (12, .inl (fun _ => 0)))) (sh := .inl (1, 12)) h0 (by omega) rfl (ha 2 _ rfl) u1 rfl (fun u2 => ?_)
  simp only [Option.bind_some]
  refine ps_M1 (e := .inl (1, (1200, .inl (fun _ => 0)))) (sh := .inl (1, 1200)) h0 (by omega) rfl (ha 3 _ rfl) u2 rfl (fun u3 => ?_)
  simp only [Option.bind_some]
  refine ps_M1 (e := .inl (3, (12, .inl (fun _ => 0)))) (sh := .inl (3, 12)) h0 (by omega) rfl (ha 4 _ rfl) u3 rfl (fun u4 => ?_)
  simp only [Option.bind_some]
  refine ps_M1 (e := .inl (1, (12, .inl (fun _ => 0)))) (sh := .inl (1, 12)) h0 (by omega) rfl (ha 5 _ rfl) u4 rfl (fun u5 => ?_)
  simp only [Option.bind_some]
  refine ps_M1 (e := .inl (1, (1440, .inl (fun _ => 0)))) (sh := .inl (1, 1440)) h0 (by omega) rfl (ha 6 _ rfl) u5 rfl (fun u6 => ?_)
  simp only [Option.bind_some]
  refine ps_M1 (e := .inl (1, (12, .inl (fun _ => 0)))) (sh := .inl (1, 12)) h0 (by omega) rfl (ha 7 _ rfl) u6 rfl (fun u7 => ?_)
  simp only [Option.bind_some]
  refine ps_M1 (e := .inl (1, (144, .inl (fun _ => 0)))) (sh := .inl (1, 144)) h0 (by omega) rfl (ha 8 _ rfl) u7 rfl (fun u8 => ?_)
  simp only [Option.bind_some]
  refine ps_M1 (e := .inl (1, (144, .inl (fun _ => 0)))) (sh := .inl (1, 144)) h0 (by omega) rfl (ha 9 _ rfl) u8 rfl (fun u9 => ?_)
  simp only [Option.bind_some]
  refine ps_M1 (e := .inl (1, (144, .inl (fun _ => 0)))) (sh := .inl (1, 144)) h0 (by omega) rfl (ha 10 _ rfl) u9 rfl (fun u10 => ?_)
  simp only [Option.bind_some]
  refine ps_M1 (e := .inl (1, (144, .inl (fun _ => 0)))) (sh := .inl (1, 144)) h0 (by omega) rfl (ha 11 _ rfl) u10 rfl (fun u11 => ?_)
  simp only [Option.bind_some]
  refine ps_M1 (e := .inl (1, (144, .inl (fun _ => 0)))) (sh := .inl (1, 144)) h0 (by omega) rfl (ha 12 _ rfl) u11 rfl (fun u12 => ?_)
  simp only [Option.bind_some]
  refine ps_M1 (e := .inl (2, (80, .inr (.inl (fun _ => 0))))) (sh := .inl (2, 80)) h0 (by omega) rfl (ha 13 _ rfl) u12 rfl (fun u13 => ?_)
  simp only [Option.bind_some]
  refine ps_M1 (e := .inl (1, (80, .inl (fun _ => 0)))) (sh := .inl (1, 80)) h0 (by omega) rfl (ha 14 _ rfl) u13 rfl (fun u14 => ?_)
  simp only [Option.bind_some]
  refine ps_M1 (e := .inl (1, (80, .inl (fun _ => 0)))) (sh := .inl (1, 80)) h0 (by omega) rfl (ha 15 _ rfl) u14 rfl (fun u15 => ?_)
  simp only [Option.bind_some]
  refine ps_M1 (e := .inl (1, (80, .inl (fun _ => 0)))) (sh := .inl (1, 80)) h0 (by omega) rfl (ha 16 _ rfl) u15 rfl (fun u16 => ?_)
  rfl
