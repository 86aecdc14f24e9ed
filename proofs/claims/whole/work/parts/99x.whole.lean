/-! ===== every run of calls ===== -/
section
variable {w : aw_W} {b N n : Nat} {sc : Nat → Int32} {i v x1 x2 x3 x4 x5 x6 : Int32}
theorem turn_all (h : SIM b N w) (hN : N + 1 < 100000) (hv : aw_scr n sc i = some v) (hx : scx n sc i x1 x2 x3 x4 x5 x6) : ∃ w', f_L_turn w (some b) (some (b + 211)) (some (b + 229)) n sc i = some w' ∧ SIM b (N + 1) w' := by
  unfold f_L_turn
  rw [hv, Option.bind_some]
  by_cases c0 : v &&& 15 = (0 : Int32)
  · rw [if_pos c0]; exact turn0 h hN hx
  rw [if_neg c0]
  by_cases c1 : v &&& 15 = (1 : Int32)
  · rw [if_pos c1]; exact turn1 h hN hx
  rw [if_neg c1]
  by_cases c2 : v &&& 15 = (2 : Int32)
  · rw [if_pos c2]; exact turn2 h hN hx
  rw [if_neg c2]
  by_cases c3 : v &&& 15 = (3 : Int32)
  · rw [if_pos c3]; exact turn3 h hN
  rw [if_neg c3]
  by_cases c4 : v &&& 15 = (4 : Int32)
  · rw [if_pos c4]; exact turn4 h hN hx
  rw [if_neg c4]
  by_cases c5 : v &&& 15 = (5 : Int32)
  · rw [if_pos c5]; exact turn5 h hN
  rw [if_neg c5]
  by_cases c6 : v &&& 15 = (6 : Int32)
  · rw [if_pos c6]; exact turn6 h hN hx
  rw [if_neg c6]
  by_cases c7 : v &&& 15 = (7 : Int32)
  · rw [if_pos c7]; exact turn7 h hN hx
  rw [if_neg c7]
  by_cases c8 : v &&& 15 = (8 : Int32)
  · rw [if_pos c8]; exact turn8 h hN hx
  rw [if_neg c8]
  by_cases c9 : v &&& 15 = (9 : Int32)
  · rw [if_pos c9]; exact turn9 h hN
  rw [if_neg c9]
  by_cases c10 : v &&& 15 = (10 : Int32)
  · rw [if_pos c10]; exact turn10 h hN hx
  rw [if_neg c10]
  by_cases c11 : v &&& 15 = (11 : Int32)
  · rw [if_pos c11]; exact turn11 h hN hx
  rw [if_neg c11]
  by_cases c12 : v &&& 15 = (12 : Int32)
  · rw [if_pos c12]; exact turn12 h hN hx
  rw [if_neg c12]
  exact ⟨w, rfl, h.mono (Nat.le_succ _)⟩
theorem run_all (hn : n ≤ 3584) : ∀ r j w, 7 * (j + r) ≤ n → SIM b j w → ∃ w', f_L_run (some b) (some (b + 211)) (some (b + 229)) n sc r j w = some w'
  | 0, j, w, _, _ => ⟨w, rfl⟩
  | r + 1, j, w, hj, h => by
    have rd : ∀ k, k < 7 → aw_scr n sc (nI (7 * j + k)) = some (sc (7 * j + k)) := fun k hk => by
      unfold aw_scr
      rw [aw_ix_nI (by omega) (by omega)]
      rfl
    have ad : ∀ (k : Nat), Int32.ofNat (7 * j) + nI k = nI (7 * j + k) := fun k => nI_add (7 * j) k
    obtain ⟨w1, e1, s1⟩ := turn_all (n := n) (sc := sc) (i := Int32.ofNat (7 * j)) (v := sc (7 * j)) (x1 := sc (7 * j + 1)) (x2 := sc (7 * j + 2)) (x3 := sc (7 * j + 3)) (x4 := sc (7 * j + 4)) (x5 := sc (7 * j + 5)) (x6 := sc (7 * j + 6)) h (by omega) (rd 0 (by decide)) ⟨(congrArg (aw_scr n sc) (ad 1)).trans (rd 1 (by decide)), (congrArg (aw_scr n sc) (ad 2)).trans (rd 2 (by decide)), (congrArg (aw_scr n sc) (ad 3)).trans (rd 3 (by decide)), (congrArg (aw_scr n sc) (ad 4)).trans (rd 4 (by decide)), (congrArg (aw_scr n sc) (ad 5)).trans (rd 5 (by decide)), (congrArg (aw_scr n sc) (ad 6)).trans (rd 6 (by decide))⟩
    rw [f_L_run, e1, Option.bind_some]
    exact run_all hn r (j + 1) w1 (by omega) s1
end
/-- files one behind the other -/
def pk_six (z : Nat) : List Nat := [z, z + 17, z + 34, z + 51, z + 68, z + 85]
theorem pk_six_at (z i : Nat) (h : i < 6) : (pk_six z)[i]? = some (z + 17 * i) ∧ (pk_six z).getD i 0 = z + 17 * i := by
  have : i = 0 ∨ i = 1 ∨ i = 2 ∨ i = 3 ∨ i = 4 ∨ i = 5 := by omega
  rcases this with rfl | rfl | rfl | rfl | rfl | rfl <;> exact ⟨rfl, rfl⟩
theorem pk_six_in {z f : Nat} (h : f ∈ pk_six z) : ∃ i, i < 6 ∧ f = z + 17 * i := by
  obtain ⟨i, hi, e⟩ := List.mem_iff_getElem.mp h
  have hi6 : i < 6 := hi
  refine ⟨i, hi6, ?_⟩
  have := (pk_six_at z i hi6).1
  rw [List.getElem?_eq_getElem hi, e] at this
  exact Option.some.inj this
theorem sim_start (b : Nat) : SIM b 0 (some (b + 230), pw_lay (pw_σ b) (pm (pr_0 b))) := by
  obtain ⟨r1, r2, r3, r4, r5, r6, r7, r8, r9⟩ := pw_ptrs b
  have hB1 : ∀ f ∈ pk_six (b + 3), isB b f := fun f hf => by
    obtain ⟨i, hi, e⟩ := pk_six_in hf
    exact ⟨i, hi, Or.inl e⟩
  have hB2 : ∀ f ∈ pk_six (b + 109), isB b f := fun f hf => by
    obtain ⟨i, hi, e⟩ := pk_six_in hf
    exact ⟨i, hi, Or.inr e⟩
  refine ⟨some (b + 230), fun _ _ => 0, fun _ _ => 0, pr_0 b, fun _ => (0, [], 0, [], []), pk_six (b + 3), 0, false, 0, 0, false, [], pk_six (b + 109), 0, 0, 0, 0, fun _ _ => (0, 0), rfl, ⟨⟨r1, r2, r3, rfl, rfl⟩, ⟨r4, rfl, r5, rfl, rfl, Nat.zero_le _, fun h => (by cases h), fun i hi => ?_, hB1⟩, ⟨pw_σ_at b 105, pw_σ_at b 106, r6, rfl, Nat.zero_le _, fun i hi => absurd hi (Nat.not_lt_zero _), fun r hr => (by cases hr)⟩, fun f hf => ?_, ⟨r7, rfl, rfl, rfl, rfl, rfl, fun i hi => ?_, hB2⟩, fun h => absurd h (Nat.lt_irrefl 0)⟩, ⟨⟨rfl, rfl, rfl, rfl⟩, rfl, fun i hi => absurd hi (Nat.not_lt_zero _), ⟨0, fun _ => (0, 0, 0, 0), ⟨rfl, Nat.zero_le _, fun j hj => absurd hj (Nat.not_lt_zero _)⟩, ⟨rfl, fun j hj => absurd hj (Nat.not_lt_zero _), fun e he => (by cases he), fun j hj => absurd hj (Nat.not_lt_zero _), fun i j hi => absurd hi (Nat.not_lt_zero _)⟩⟩, rfl, fun h => absurd h (Nat.lt_irrefl 0)⟩, ?_, ⟨fun f hf => ?_, ⟨rfl, rfl, fun i j hi hj e => ?_, fun i j hi hj e => ?_, fun i j hi hj e => ?_⟩, fun h => (by cases h), fun _ i hi => absurd hi (Nat.not_lt_zero _), ⟨fun e he => (by cases he), fun e he => (by cases he), List.Pairwise.nil⟩, fun i hi => absurd hi (Nat.not_lt_zero _), by decide, fun h => absurd h (Nat.lt_irrefl 0)⟩, Nat.le_refl _⟩
  · rw [(pk_six_at _ i hi).1]
    exact (r8 i hi).2
  · have key : ∀ g, pw_blk (pw_σ b) g → pw_Fp (pr_0 b) g → qF (pw_σ b) (fun _ _ => 0, fun _ _ => 0, pr_0 b) g (0, [], 0, [], []) := fun g hg hp => ⟨hg, hp, ⟨⟨hg.2.1, hg.2.2.1, hp.2.2.2.1, rfl, Nat.zero_le _, by decide⟩, fun i hi => absurd hi (Nat.not_lt_zero _)⟩, ⟨⟨hg.2.2.2.1, hg.2.2.2.2.1, hp.2.2.2.2.1, rfl, Nat.zero_le _, by decide⟩, fun i hi => absurd hi (Nat.not_lt_zero _)⟩, rfl, rfl, rfl, Nat.zero_le _, fun i r hr => (by cases hr)⟩
    obtain ⟨i, hi, e | e⟩ := hf
    · rw [e]
      exact key _ (pw_blk_S hi) (r8 i hi).1
    · rw [e]
      exact key _ (pw_blk_G hi) (r9 i hi).1
  · rw [(pk_six_at _ i hi).1]
    exact (r9 i hi).2
  · obtain ⟨m2, m3, m4, m5, m6, m7, m8, m9, m10, m11, m12, m13, m14, m16, m17, m18, m19⟩ := pw_ptrsM b
    intro k hk
    have : k = 2 ∨ k = 3 ∨ k = 4 ∨ k = 5 ∨ k = 6 ∨ k = 7 ∨ k = 8 ∨ k = 9 ∨ k = 10 ∨ k = 11 ∨ k = 12 ∨ k = 13 ∨ k = 14 ∨ k = 16 ∨ k = 17 ∨ k = 18 ∨ k = 19 := by omega
    rcases this with rfl | rfl | rfl | rfl | rfl | rfl | rfl | rfl | rfl | rfl | rfl | rfl | rfl | rfl | rfl | rfl | rfl
    · exact m2
    · exact m3
    · exact m4
    · exact m5
    · exact m6
    · exact m7
    · exact m8
    · exact m9
    · exact m10
    · exact m11
    · exact m12
    · exact m13
    · exact m14
    · exact m16
    · exact m17
    · exact m18
    · exact m19
  · exact ⟨fun x hx => (by cases hx), fun x hx => (by cases hx), Or.inl rfl, Nat.le_refl _, fun r hr => (by cases hr)⟩
  · rw [(pk_six_at _ i hi).2, (pk_six_at _ j hj).2] at e
    omega
  · rw [(pk_six_at _ i hi).2, (pk_six_at _ j hj).2] at e
    omega
  · rw [(pk_six_at _ i hi).2, (pk_six_at _ j hj).2] at e
    omega
theorem pw_thm (base z n : Nat) (sc : Nat → Int32) (hn : n ≤ 3584) : ∃ (q : Option Nat × Option Nat × Option Nat × aw_W) (w' : aw_W), f_L_start (some base, fun _ => none) z = some q ∧ f_L_run q.1 q.2.1 q.2.2.1 n sc (n / 7) 0 q.2.2.2 = some w' := by
  obtain ⟨w', e⟩ := run_all (b := base) (sc := sc) hn (n / 7) 0 _ (by omega) (sim_start base)
  exact ⟨_, w', ps_start base z, e⟩
