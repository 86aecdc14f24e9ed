/-! ===== a file learns its records from its bytes ===== -/
/-- x comes to a world with P -/
def pT (σ : Nat → Option pw_Sh) (s : Option Nat) (P : pw_Mem → Prop) (x : Option aw_W) : Prop := ∃ μ', x = some (s, pw_lay σ μ') ∧ P μ'
/-- x comes to an answer and a world with P -/
def pTr {α : Type} (σ : Nat → Option pw_Sh) (s : Option Nat) (P : α → pw_Mem → Prop) (x : Option (α × aw_W)) : Prop := ∃ a μ', x = some (a, (s, pw_lay σ μ')) ∧ P a μ'
theorem pw_loopG {α τ ρ : Type} {body : α → Option (α ⊕ τ)} {f : τ → Option ρ} {s0 : α} {G : Option ρ → Prop} (n : Nat) (Inv : Nat → α → Prop) (Post : τ → Prop) (h0 : Inv n s0)
    (hs : ∀ n s, Inv n s → (∃ m s', m < n ∧ body s = some (.inl s') ∧ Inv m s') ∨ ∃ r, body s = some (.inr r) ∧ Post r) (hG : ∀ r, Post r → G (f r)) : G ((aw_wh body s0).bind f) := by
  have key : ∀ n s, Inv n s → ∃ r, aw_wh body s = some r ∧ Post r := by
    intro n
    induction n using Nat.strongRecOn with
    | _ n ih =>
      intro s h
      rcases hs n s h with ⟨m, s', hm, e, g⟩ | ⟨r, e, g⟩
      · obtain ⟨r, er, gr⟩ := ih m hm s' g
        exact ⟨r, (aw_wh_in e).trans er, gr⟩
      · exact ⟨r, aw_wh_out e, g⟩
  obtain ⟨r, er, gr⟩ := key n s0 h0
  rw [er]
  exact hG r gr
/-- the size of the sound record at p, or 0 -/
def pn_snd (B : List Nat) (p : Nat) : Nat := if p + 8 ≤ B.length ∧ 1 ≤ B.getD (p + 6) 0 ∧ B.getD (p + 6) 0 ≤ 4 ∧ (B.getD (p + 7) 0 ≤ 8 ∨ B.getD (p + 7) 0 = 255) ∧ p + pn_len (B.getD (p + 6) 0) (B.getD (p + 7) 0) ≤ B.length ∧ pn_num (fun i => B.getD i 0) p 4 = pn_sum (fun i => B.getD i 0) (p + 4) (pn_len (B.getD (p + 6) 0) (B.getD (p + 7) 0) - 4) then pn_len (B.getD (p + 6) 0) (B.getD (p + 7) 0) else 0
/-- the records from p on, at most n, and their end -/
def pn_lrn (B : List Nat) : Nat → Nat → List qr × Nat
  | 0, p => ([], p)
  | n + 1, p => if pn_snd B p = 0 then ([], p) else ((p, B.getD (p + 6) 0, pn_num (fun i => B.getD i 0) (p + 8) (B.getD (p + 6) 0), B.getD (p + 7) 0) :: (pn_lrn B n (p + pn_snd B p)).1, (pn_lrn B n (p + pn_snd B p)).2)
theorem pn_snd_spec {B : List Nat} {p : Nat} (h : ¬ pn_snd B p = 0) : pn_snd B p = pn_len (B.getD (p + 6) 0) (B.getD (p + 7) 0) ∧ p + 8 ≤ B.length ∧ 1 ≤ B.getD (p + 6) 0 ∧ B.getD (p + 6) 0 ≤ 4 ∧ (B.getD (p + 7) 0 ≤ 8 ∨ B.getD (p + 7) 0 = 255) ∧ p + pn_len (B.getD (p + 6) 0) (B.getD (p + 7) 0) ≤ B.length := by
  unfold pn_snd at h ⊢
  split at h
  · next g => rw [if_pos g]; exact ⟨rfl, g.1, g.2.1, g.2.2.1, g.2.2.2.1, g.2.2.2.2.1⟩
  · exact absurd rfl h
theorem pn_len_ge (k v : Nat) : 8 + k ≤ pn_len k v := by unfold pn_len; omega
theorem pn_len_le {k v : Nat} (hk : k ≤ 4) (hv : v ≤ 8 ∨ v = 255) : pn_len k v ≤ 20 := by
  unfold pn_len
  split <;> omega
theorem pn_num_lt {b : Nat → Nat} (hb : ∀ i, b i < 256) (p : Nat) : ∀ k, pn_num b p k < 2 ^ (8 * k)
  | 0 => Nat.zero_lt_one
  | k + 1 => by
    have h1 := pn_num_lt hb p k
    have h2 := hb (p + k)
    rw [pn_num, show 8 * (k + 1) = 8 * k + 8 by omega, Nat.pow_add]
    generalize (2 : Nat) ^ (8 * k) = z at h1
    omega
theorem pn_sum_lt {b : Nat → Nat} (hb : ∀ i, b i < 256) (p k : Nat) : pn_sum b p k < 2 ^ 32 := by
  unfold pn_sum
  omega
theorem lN_eq63 {a b : Nat} (ha : a < 2 ^ 63) (hb : b < 2 ^ 63) : lN a = lN b ↔ a = b := by
  rw [← Int64.toInt_inj, lN_toInt' ha, lN_toInt' hb]
  omega
theorem pk_isKey {w : aw_W} {n : Nat} (hn : n < 2 ^ 31) : f_Y_isKeySize w (nI n) = some (if 1 ≤ n ∧ n ≤ 4 then 1 else 0) := by
  unfold f_Y_isKeySize
  by_cases h1 : n < 1
  · rw [if_pos (show nI n < 1 from nI_lt (b := 1) h1 (by decide)), if_neg (by omega), Option.bind_some, aw_zz_0]
    rfl
  · rw [if_neg (show ¬ nI n < 1 from nI_nlt (b := 1) (by omega) hn)]
    by_cases h4 : 4 < n
    · rw [if_pos (show 4 < nI n from nI_lt (a := 4) h4 hn), if_neg (by omega), Option.bind_some, aw_zz_0]
      rfl
    · rw [if_neg (show ¬ 4 < nI n from nI_nlt (a := 4) (by omega) (by decide)), if_pos (by omega), Option.bind_some, aw_zz_1]
      rfl
theorem pk_isVal {w : aw_W} {n : Nat} (hn : n < 2 ^ 31) : f_Y_isValueSize w (nI n) = some (if n ≤ 8 then 1 else 0) := by
  unfold f_Y_isValueSize
  rw [if_neg (nI_pos hn)]
  by_cases h4 : 8 < n
  · rw [if_pos (show 8 < nI n from nI_lt (a := 8) h4 hn), if_neg (by omega), Option.bind_some, aw_zz_0]
    rfl
  · rw [if_neg (show ¬ 8 < nI n from nI_nlt (a := 8) (by omega) (by decide)), if_pos (by omega), Option.bind_some, aw_zz_1]
    rfl
section
variable {σ : Nat → Option pw_Sh} {μ : pw_Mem} {s : Option Nat} {f : Nat} {t : qf}
theorem qF_at (h : qF σ μ f t) {i : Nat} (hi : i < 2 ^ 31) : f_O_at (s, pw_lay σ μ) (some (f + 1)) (nI i) = some (nI (t.2.1.getD i 0)) := by
  rw [pl_at h.2.2.1 hi, pw_map_getD]
theorem qF_num (h : qF σ μ f t) (hB : qB t.2.1) {p k : Nat} (hp : p + k < 2 ^ 31) : f_O_number (s, pw_lay σ μ) (some (f + 1)) (nI p) (nI k) = some (lN (pn_num (fun i => t.2.1.getD i 0) p k)) := by
  rw [pl_number h.2.2.1 hp, pw_map_fun, pw_num_n hB.getD]
theorem qF_right (h : qF σ μ f t) (hB : qB t.2.1) {p n : Nat} (hn : 4 ≤ n) (hpn : p + n < 2 ^ 30) : f_F_hasRightSum (s, pw_lay σ μ) (some f) (nI p) (nI n) = some (if pn_num (fun i => t.2.1.getD i 0) p 4 = pn_sum (fun i => t.2.1.getD i 0) (p + 4) (n - 4) then 1 else 0) := by
  rw [pf_rightSum h.1 h.2.1 h.2.2.1 hn hpn, pw_map_fun, pw_num_n hB.getD, pw_sum_n hB.getD]
  have e1 := pn_num_lt hB.getD p 4
  have e2 := pn_sum_lt hB.getD (p + 4) (n - 4)
  simp only [lN_eq63 (show pn_num (fun i => t.2.1.getD i 0) p 4 < 2 ^ 63 by omega) (show pn_sum (fun i => t.2.1.getD i 0) (p + 4) (n - 4) < 2 ^ 63 by omega)]
theorem qF_len (h : qF σ μ f t) : t.2.1.length ≤ 100 := by have := h.2.2.1.1.2.2.2.2.1; rw [pw_map_len] at this; exact this
theorem qF_hlen (h : qF σ μ f t) : t.2.2.2.1.length ≤ 104 := by have := h.2.2.2.1.1.2.2.2.2.1; rw [pw_map_len] at this; exact this
theorem qF_size (h : qF σ μ f t) : f_O_size (s, pw_lay σ μ) (some (f + 1)) = some (nI t.2.1.length) := by rw [po_size h.2.2.1.1, pw_map_len]
theorem qF_snd (h : qF σ μ f t) (hB : qB t.2.1) {p : Nat} (hp : p < 2 ^ 20) : f_F_soundSize (s, pw_lay σ μ) (some f) (nI p) = some (nI (pn_snd t.2.1 p)) := by
  have h1 := h.1
  have h2 := h.2.1
  have hl := qF_len h
  have hk := hB.getD (p + 6)
  have hv := hB.getD (p + 7)
  have hg : aw_gR (s, pw_lay σ μ) (some f) 6 0 = some (some (f + 1)) := by
    rw [pg_F_0, pw_ob_of h1.1]
    exact congrArg some h2.1
  have ho : aw_obj (s, pw_lay σ μ) (some (f + 1)) 3 = some (f + 1, pw_fs μ (f + 1) 3) := by
    rw [pw_obj, pw_ob_of h1.2.1]
    rfl
  have hof : aw_obj (s, pw_lay σ μ) (some f) 6 = some (f, pw_fs μ f 6) := by
    rw [pw_obj, pw_ob_of h1.1]
    rfl
  unfold f_F_soundSize
  simp only [hg, ho, Option.bind_some]
  rw [qF_size h, Option.bind_some, show nI p + (8 : Int32) = nI (p + 8) from nI_add p 8, show nI p + (6 : Int32) = nI (p + 6) from nI_add p 6, show nI p + (7 : Int32) = nI (p + 7) from nI_add p 7]
  unfold pn_snd
  by_cases c1 : p + 8 ≤ t.2.1.length
  · rw [if_pos (nI_le c1 (by omega)), qF_at h (by omega), Option.bind_some, qF_at h (by omega), Option.bind_some]
    generalize t.2.1.getD (p + 6) 0 = k at hk ⊢
    generalize t.2.1.getD (p + 7) 0 = v at hv ⊢
    rw [pk_isKey (by omega)]
    simp only [Option.bind_some]
    have e255 : (nI v = (255 : Int32)) ↔ v = 255 := nI_eq (b := 255) (by omega) (by decide)
    have tail : ∀ (hk1 : 1 ≤ k) (hk4 : k ≤ 4) (hvv : v ≤ 8 ∨ v = 255), ((f_Y_recordBytes (s, pw_lay σ μ) (nI k) (nI v)).bind fun v20 => (if nI t.2.1.length < nI p + v20 then some (0 : Int32) else (f_F_hasRightSum (s, pw_lay σ μ) (some f) (nI p) v20).bind fun v25 => if v25 = 0 then some (0 : Int32) else some v20 : Option Int32).bind fun j26 => some j26) = some (nI (if p + pn_len k v ≤ t.2.1.length ∧ pn_num (fun i => t.2.1.getD i 0) p 4 = pn_sum (fun i => t.2.1.getD i 0) (p + 4) (pn_len k v - 4) then pn_len k v else 0)) := by
      intro hk1 hk4 hvv
      have l1 := pn_len_ge k v
      have l2 := pn_len_le hk4 hvv
      rw [pk_recordBytes (by omega), Option.bind_some, nI_add]
      by_cases c2 : p + pn_len k v ≤ t.2.1.length
      · rw [if_neg (nI_nlt c2 (by omega)), qF_right h hB (by omega) (by omega), Option.bind_some]
        by_cases c3 : pn_num (fun i => t.2.1.getD i 0) p 4 = pn_sum (fun i => t.2.1.getD i 0) (p + 4) (pn_len k v - 4)
        · rw [if_pos c3, if_neg (by decide), if_pos ⟨c2, c3⟩]
          rfl
        · rw [if_neg c3, if_pos rfl, if_neg (fun hc => c3 hc.2)]
          rfl
      · rw [if_pos (nI_lt (by omega) (by omega)), if_neg (fun hc => c2 hc.1)]
        rfl
    by_cases ck : 1 ≤ k ∧ k ≤ 4
    · rw [if_pos ck]
      by_cases c5 : v = 255
      · have hvv : v ≤ 8 ∨ v = 255 := Or.inr c5
        rw [if_pos (e255.mpr c5)]
        simp only [Option.bind_some, hof]
        rw [if_neg (by decide), if_neg (by decide), tail ck.1 ck.2 hvv]
        simp only [c1, ck.1, ck.2, hvv, true_and]
      · rw [if_neg (fun hc => c5 (e255.mp hc))]
        simp only [Option.bind_some, hof]
        rw [if_neg (by decide), if_pos trivial, pk_isVal (by omega), Option.bind_some]
        by_cases c8 : v ≤ 8
        · have hvv : v ≤ 8 ∨ v = 255 := Or.inl c8
          rw [if_pos c8, if_neg (by decide), tail ck.1 ck.2 hvv]
          simp only [c1, ck.1, ck.2, hvv, true_and]
        · rw [if_neg c8, if_pos rfl, if_neg (fun hc => by omega)]
          rfl
    · rw [if_neg ck]
      have e9 : ¬ (p + 8 ≤ t.2.1.length ∧ 1 ≤ k ∧ k ≤ 4 ∧ (v ≤ 8 ∨ v = 255) ∧ p + pn_len k v ≤ t.2.1.length ∧ pn_num (fun i => t.2.1.getD i 0) p 4 = pn_sum (fun i => t.2.1.getD i 0) (p + 4) (pn_len k v - 4)) := fun hc => ck ⟨hc.2.1, hc.2.2.1⟩
      rw [if_neg e9]
      split <;> rfl
  · rw [if_neg (fun hc => absurd ((nI_leI (by omega) (by omega)).mp hc) c1), if_neg (fun hc => c1 hc.1)]
    rfl
/-- a file with other records -/
theorem qF_count0 (h : qF σ μ f t) : qF σ (pw_sI μ f 3 (nI 0)) f (t.1, t.2.1, t.2.2.1, t.2.2.2.1, []) := by
  obtain ⟨h1, h2, h3, h4, h5, h6, h7, h8, h9⟩ := h
  refine ⟨h1, h2, pl_keep h3 (pw_sI_off (by omega)) (pw_sI_off (by omega)) rfl, pl_keep h4 (pw_sI_off (by omega)) (pw_sI_off (by omega)) rfl, ?_, ?_, ?_, Nat.zero_le _, fun i r hr => by cases hr⟩
  · rw [pw_sI_I, if_neg (by omega)]; exact h5
  · rw [pw_sI_I, if_neg (by omega)]; exact h6
  · rw [pw_sI_I, if_pos ⟨rfl, rfl⟩]
    rfl
theorem qF_note (h : qF σ μ f t) (hc : t.2.2.2.2.length < 11) (p k x v : Nat) (src : Option Nat) : ∃ μ', f_F_note (s, pw_lay σ μ) (some f) (nI p) (lN (pn_rank k x)) (nI v) src = some (some (f + 6 + t.2.2.2.2.length), (s, pw_lay σ μ')) ∧ qF σ μ' f (t.1, t.2.1, t.2.2.1, t.2.2.2.1, t.2.2.2.2 ++ [(p, k, x, v)]) ∧ pw_fr μ μ' (pw_in f) :=
  ⟨_, pf_note h.1 h.2.1 h.2.2.2.2.2.2.1 hc (nI p) (lN (pn_rank k x)) (nI v) src, qF_noted h hc p k x v src, pw_fr.note ⟨by omega, by omega⟩ ⟨by omega, by omega⟩⟩
theorem qF_cut (h : qF σ μ f t) {k : Nat} (hk : k < 2 ^ 31) : ∃ μ', f_O_cutTo (s, pw_lay σ μ) (some (f + 1)) (nI k) = some (s, pw_lay σ μ') ∧ qF σ μ' f (t.1, t.2.1.take k, t.2.2) ∧ pw_fr μ μ' (pw_in f) := by
  have k1 := pl_cut h.2.2.1 k
  rw [← List.map_take] at k1
  have g1 : pw_fr μ (if k < (t.2.1.map nI).length then pw_sI μ (f + 1) 1 (nI k) else μ) (fun a => a = f + 1 ∨ a = f + 2) := by
    split
    · exact pw_fr.sI (Or.inl rfl)
    · exact pw_fr.rfl
  exact ⟨_, po_cutTo h.2.2.1.1 hk, qF_bytes h g1 k1, g1.mono (fun a ha => by unfold pw_in; omega)⟩
theorem pk_rank_num {w : aw_W} {n k : Nat} (hn : n < 2 ^ (8 * k)) (h1 : 1 ≤ k) (h4 : k ≤ 4) : f_K_rank w (lN n) (nI k) = some (lN (pn_rank k n)) := by
  rw [pk_rank _ h1 h4]
  unfold pn_cut
  have h2 : (2 : Nat) ^ (8 * k) ≤ 2 ^ 32 := Nat.pow_le_pow_right (by decide) (by omega)
  rw [lN_bv, BitVec.toNat_ofNat, Nat.mod_eq_of_lt (show n < 2 ^ 64 by omega), Nat.mod_eq_of_lt hn]
theorem qF_lrn (h : qF σ μ f t) (hB : qB t.2.1) : pT σ s (fun μ' => qF σ μ' f (t.1, t.2.1.take (pn_lrn t.2.1 11 0).2, t.2.2.1, t.2.2.2.1, (pn_lrn t.2.1 11 0).1) ∧ pw_fr μ μ' (pw_in f)) (f_F_learnFromBytes (s, pw_lay σ μ) (some f)) := by
  have hl := qF_len h
  unfold f_F_learnFromBytes
  rw [show (Value.int 0) = Value.int (nI 0) from rfl, pp_F_3, pw_ob_of h.1.1]
  simp only [Option.map_some, Option.bind_some]
  refine pw_loopG (G := pT σ s _) 11 (fun n a => ∃ p i μ1 rs, a = (nI p, nI i, (s, pw_lay σ μ1)) ∧ qF σ μ1 f (t.1, t.2.1, t.2.2.1, t.2.2.2.1, rs) ∧ pw_fr μ μ1 (pw_in f) ∧ rs.length = i ∧ n + i = 11 ∧ p ≤ 100 ∧ rs ++ (pn_lrn t.2.1 n p).1 = (pn_lrn t.2.1 11 0).1 ∧ (pn_lrn t.2.1 n p).2 = (pn_lrn t.2.1 11 0).2)
    (fun r => ∃ i μ1, r = (nI (pn_lrn t.2.1 11 0).2, i, (s, pw_lay σ μ1)) ∧ (pn_lrn t.2.1 11 0).2 ≤ 100 ∧ qF σ μ1 f (t.1, t.2.1, t.2.2.1, t.2.2.2.1, (pn_lrn t.2.1 11 0).1) ∧ pw_fr μ μ1 (pw_in f)) ?_ ?_ ?_
  · exact ⟨0, 0, _, [], rfl, qF_count0 h, pw_fr.sI ⟨by omega, by omega⟩, rfl, rfl, by omega, rfl, rfl⟩
  · rintro n a ⟨p, i, μ1, rs, rfl, q, g, hi, hn, hp, e1, e2⟩
    dsimp only
    by_cases h11 : i = 11
    · have hn0 : n = 0 := by omega
      subst hn0
      rw [pn_lrn] at e1 e2
      rw [List.append_nil] at e1
      right
      refine ⟨_, if_pos (by rw [h11]; decide), nI i, μ1, by rw [← e2], by omega, by rw [← e1]; exact q, g⟩
    · obtain ⟨m, rfl⟩ : ∃ m, n = m + 1 := ⟨n - 1, by omega⟩
      rw [if_neg (show ¬ (11 : Int32) ≤ nI i from nI_ge (b := 11) (by omega) (by decide)), pw_obj, pw_ob_of h.1.1]
      simp only [Option.map_some, Option.bind_some]
      rw [qF_snd q hB (by omega), Option.bind_some]
      dsimp only
      rw [pn_lrn] at e1 e2
      by_cases h0 : pn_snd t.2.1 p = 0
      · rw [if_pos h0] at e1 e2
        rw [List.append_nil] at e1
        right
        refine ⟨_, if_pos (by rw [h0]; rfl), nI i, μ1, by rw [← e2], by omega, by rw [← e1]; exact q, g⟩
      · rw [if_neg h0] at e1 e2
        obtain ⟨s1, s2, s3, s4, s5, s6⟩ := pn_snd_spec h0
        have hk := hB.getD (p + 6)
        have hv := hB.getD (p + 7)
        have hlen := pn_len_le s4 s5
        have hnum := pn_num_lt hB.getD (p + 8) (t.2.1.getD (p + 6) 0)
        obtain ⟨μ2, n1, n2, n3⟩ := qF_note (s := s) q (by dsimp only; omega) p (t.2.1.getD (p + 6) 0) (pn_num (fun i => t.2.1.getD i 0) (p + 8) (t.2.1.getD (p + 6) 0)) (t.2.1.getD (p + 7) 0) none
        left
        refine ⟨m, (nI (p + pn_snd t.2.1 p), nI (i + 1), (s, pw_lay σ μ2)), Nat.lt_succ_self m, ?_, p + pn_snd t.2.1 p, i + 1, μ2, _, rfl, n2, g.trans n3, ?_, by omega, by omega, ?_, e2⟩
        · rw [if_neg (nI_ne0 (by omega) (by omega)), pg_F_0, pw_ob_of h.1.1]
          simp only [Option.map_some, Option.bind_some, q.2.1.1]
          rw [pw_obj, pw_ob_of h.1.2.1]
          simp only [Option.map_some, Option.bind_some]
          rw [show nI p + (8 : Int32) = nI (p + 8) from nI_add p 8, show nI p + (6 : Int32) = nI (p + 6) from nI_add p 6, show nI p + (7 : Int32) = nI (p + 7) from nI_add p 7, qF_at q (by omega), Option.bind_some, qF_num q hB (by dsimp only; omega), Option.bind_some]
          dsimp only
          rw [pk_rank_num hnum s3 s4, Option.bind_some, qF_at q (by omega), Option.bind_some]
          dsimp only
          rw [n1, Option.bind_some, nI_add, nI_1]
        · rw [List.length_append, List.length_singleton, hi]
        · rw [List.append_assoc]
          exact e1
  · rintro r ⟨i, μ1, rfl, hle, q, g⟩
    dsimp only
    rw [pg_F_0, pw_ob_of h.1.1]
    simp only [Option.map_some, Option.bind_some, q.2.1.1]
    rw [pw_obj, pw_ob_of h.1.2.1]
    simp only [Option.map_some, Option.bind_some]
    obtain ⟨μ2, n1, n2, n3⟩ := qF_cut (s := s) q (k := (pn_lrn t.2.1 11 0).2) (by omega)
    rw [n1]
    exact ⟨μ2, rfl, n2, g.trans n3⟩
end
