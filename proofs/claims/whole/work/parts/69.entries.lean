/-! ===== the directory as a list of ranks and records ===== -/
abbrev qe : Type := Nat × Nat
def pe_L {α : Type} (x : Nat) (D : List (Nat × α)) : List (Nat × α) := D.takeWhile (fun e => decide (e.1 < x))
def pe_R {α : Type} (x : Nat) (D : List (Nat × α)) : List (Nat × α) := D.dropWhile (fun e => decide (e.1 < x))
def pe_find {α : Type} (x : Nat) (D : List (Nat × α)) : Option α := match pe_R x D with
  | [] => none
  | e :: _ => if e.1 = x then some e.2 else none
/-- behind the records of smaller ranks and the one of the rank itself -/
def pe_B {α : Type} (x : Nat) (D : List (Nat × α)) : List (Nat × α) := match pe_R x D with
  | [] => []
  | e :: t => if e.1 = x then t else e :: t
def pe_en {α : Type} (x : Nat) (a : α) (tomb : Bool) (D : List (Nat × α)) : List (Nat × α) := pe_L x D ++ ((if tomb then [] else [(x, a)]) ++ pe_B x D)
theorem pe_LR {α : Type} (x : Nat) (D : List (Nat × α)) : pe_L x D ++ pe_R x D = D := List.takeWhile_append_dropWhile
def kD (σ : Nat → Option pw_Sh) (μ : pw_Mem) (d : Nat) (D : List qe) : Prop := pw_D σ μ d (D.map Prod.snd) ∧ ∀ e ∈ D, μ.2.1 e.2 2 = lN e.1 ∧ e.1 < 2 ^ 62
theorem lN_lt63 {a b : Nat} (ha : a < 2 ^ 63) (hb : b < 2 ^ 63) : lN a < lN b ↔ a < b := by
  rw [Int64.lt_iff_toInt_lt, lN_toInt' ha, lN_toInt' hb]
  omega
theorem pd_ff_n {μ : pw_Mem} {x : Nat} (hx : x < 2 ^ 62) : ∀ D : List qe, (∀ e ∈ D, μ.2.1 e.2 2 = lN e.1 ∧ e.1 < 2 ^ 62) → pd_ff μ (lN x) (D.map Prod.snd) = (pe_L x D).length
  | [], _ => rfl
  | e :: t, h => by
    obtain ⟨h1, h2⟩ := h e List.mem_cons_self
    have ih := pd_ff_n hx t (fun q hq => h q (List.mem_cons_of_mem _ hq))
    rw [List.map_cons, pd_ff, h1, ih]
    unfold pe_L
    rw [List.takeWhile_cons]
    have e9 := lN_lt63 (a := e.1) (b := x) (by omega) (by omega)
    by_cases c : e.1 < x
    · rw [if_pos (e9.mpr c), if_pos (decide_eq_true c), List.length_cons]
    · rw [if_neg (fun hc => c (e9.mp hc)), if_neg (by simpa using c)]
      rfl
theorem pe_at (x : Nat) (D : List qe) : D[(pe_L x D).length]? = (pe_R x D)[0]? := by
  have h := pe_LR x D
  have : D[(pe_L x D).length]? = (pe_L x D ++ pe_R x D)[(pe_L x D).length]? := by rw [h]
  rw [this, List.getElem?_append_right (Nat.le_refl _), Nat.sub_self]
section
variable {σ : Nat → Option pw_Sh} {μ μ' : pw_Mem} {s : Option Nat} {d : Nat} {D : List qe}
theorem kD.fr {P : Nat → Prop} (h : kD σ μ d D) (g : pw_fr μ μ' P) (h1 : ¬ P d) (h2 : ¬ P (d + 1)) (h3 : ∀ e ∈ D, μ'.2.1 e.2 2 = μ.2.1 e.2 2) : kD σ μ' d D := ⟨h.1.fr g h1 h2, fun e he => ⟨(h3 e he).trans (h.2 e he).1, (h.2 e he).2⟩⟩
theorem kD_ff (h : kD σ μ d D) {x : Nat} (hx : x < 2 ^ 62) : pd_ff μ (lN x) (D.map Prod.snd) = (pe_L x D).length := pd_ff_n hx D h.2
theorem kD_at (h : kD σ μ d D) {x : Nat} : (D.map Prod.snd)[(pe_L x D).length]? = ((pe_R x D)[0]?).map Prod.snd := by
  rw [List.getElem?_map, pe_at]
theorem kD_fi (h : kD σ μ d D) {x : Nat} (hx : x < 2 ^ 62) : pd_fi μ (lN x) (D.map Prod.snd) = pe_find x D := by
  unfold pd_fi
  rw [kD_ff h hx, kD_at h]
  unfold pe_find
  cases hR : pe_R x D with
  | nil => rfl
  | cons e t =>
    have he : e ∈ D := by
      rw [← pe_LR x D, hR]
      exact List.mem_append_right _ List.mem_cons_self
    obtain ⟨h1, h2⟩ := h.2 e he
    show (if μ.2.1 e.2 2 = lN x then some e.2 else none) = if e.1 = x then some e.2 else none
    rw [h1]
    have e9 := lN_eq63 (a := e.1) (b := x) (by omega) (by omega)
    by_cases c : e.1 = x
    · rw [if_pos c, if_pos (e9.mpr c)]
    · rw [if_neg c, if_neg (fun hc => c (e9.mp hc))]
theorem kD_find (h : kD σ μ d D) {x : Nat} (hx : x < 2 ^ 62) : f_D_find (s, pw_lay σ μ) (some d) (lN x) = some (pe_find x D) := by
  rw [pd_find h.1, kD_fi h hx]
theorem kD_has (h : kD σ μ d D) {r x : Nat} (hr : σ r = some (.inr 4)) (hx : x < 2 ^ 62) (hk : μ.2.1 r 2 = lN x) : f_D_has (s, pw_lay σ μ) (some d) (some r) = some (if pe_find x D = some r then 1 else 0) := by
  rw [pd_has h.1 hr, hk, kD_fi h hx]
theorem pe_en_len (x a : Nat) (b : Bool) (D : List qe) : (pe_en x a b D).length ≤ D.length + 1 := by
  have h := congrArg List.length (pe_LR x D)
  rw [List.length_append] at h
  unfold pe_en pe_B
  cases hR : pe_R x D with
  | nil =>
    rw [hR, List.length_nil] at h
    simp only [List.length_append, List.length_nil]
    split <;> simp <;> omega
  | cons e t =>
    rw [hR, List.length_cons] at h
    simp only [List.length_append]
    split <;> split <;> simp <;> omega
theorem kD_enter (h : kD σ μ d D) {r x v : Nat} (hr : σ r = some (.inr 4)) (hx : x < 2 ^ 62) (hk : μ.2.1 r 2 = lN x) (hv : μ.1 r 3 = nI v) (hv2 : v < 256) (hl : D.length < 66 ∨ pe_find x D ≠ none) :
    ∃ μ', f_D_enter (s, pw_lay σ μ) (some d) (some r) = some (s, pw_lay σ μ') ∧ kD σ μ' d (pe_en x r (decide (v = 255)) D) ∧ pw_fr μ μ' (pw_inD d) := by
  have hD := h.1
  have hne : ∀ q, σ q = some (.inr 4) → ¬ pw_inD d q := by
    intro q hq hc
    rcases hc with rfl | rfl
    · rw [hD.1] at hq; cases hq
    · rw [hD.2.1] at hq; cases hq
  have hkeep : ∀ μ' (D' : List qe), pw_fr μ μ' (pw_inD d) → pw_D σ μ' d (D'.map Prod.snd) → (∀ e ∈ D', e ∈ D ∨ e = (x, r)) → kD σ μ' d D' := by
    intro μ' D' g hD' hs
    refine ⟨hD', fun e he => ?_⟩
    rcases hs e he with h1 | rfl
    · have := hD.2.2.2.2.2.2 e.2 (List.mem_map_of_mem h1)
      rw [(g _ (hne _ this)).2.1]
      exact h.2 e h1
    · rw [(g _ (hne _ hr)).2.1]
      exact ⟨hk, hx⟩
  have hL : (pe_L x D).length ≤ D.length := by
    have := congrArg List.length (pe_LR x D)
    rw [List.length_append] at this
    omega
  have hml : (D.map Prod.snd).length = D.length := List.length_map _
  have h66 := hD.2.2.2.2.1
  rw [hml] at h66
  have hR : ∀ e ∈ pe_L x D, e ∈ D := fun e he => by rw [← pe_LR x D]; exact List.mem_append_left _ he
  have hRR : ∀ e ∈ pe_R x D, e ∈ D := fun e he => by rw [← pe_LR x D]; exact List.mem_append_right _ he
  have htk : (D.map Prod.snd).take (pe_L x D).length = (pe_L x D).map Prod.snd := by
    have : (D.map Prod.snd).take (pe_L x D).length = ((pe_L x D ++ pe_R x D).map Prod.snd).take (pe_L x D).length := by rw [pe_LR]
    rw [this, List.map_append, List.take_left' (List.length_map _)]
  have hdr : (D.map Prod.snd).drop (pe_L x D).length = (pe_R x D).map Prod.snd := by
    have : (D.map Prod.snd).drop (pe_L x D).length = ((pe_L x D ++ pe_R x D).map Prod.snd).drop (pe_L x D).length := by rw [pe_LR]
    rw [this, List.map_append, List.drop_left' (List.length_map _)]
  have htomb : f_R_isTombstone (s, pw_lay σ μ) (some r) = some (if v = 255 then 1 else 0) := by
    unfold f_R_isTombstone
    rw [pg_R_3, pw_ob_of hr]
    simp only [Option.map_some, Option.bind_some, hv]
    have e255 : (nI v = (255 : Int32)) ↔ v = 255 := nI_eq (b := 255) (by omega) (by decide)
    by_cases c : v = 255
    · rw [if_pos (e255.mpr c), if_pos c, Option.bind_some, aw_zz_1]
      rfl
    · rw [if_neg (fun hc => c (e255.mp hc)), if_neg c, Option.bind_some, aw_zz_0]
      rfl
  unfold f_D_enter
  rw [pg_R_2, pw_ob_of hr]
  simp only [Option.map_some, Option.bind_some, hk]
  rw [pd_obj hD, Option.bind_some, pd_firstFrom hD, Option.bind_some, kD_ff h hx, pd_at hD (by omega)]
  simp only [Option.bind_some, pw_obj, pw_ob_of hr, Option.map_some, htomb, pw_ob_of hD.1, pd_g0 hD]
  rw [kD_at h]
  cases hRc : pe_R x D with
  | nil =>
    simp only [List.getElem?_nil, Option.map_none, if_true, Option.bind_some]
    have hlen : (pe_L x D).length = D.length := by
      have := congrArg List.length (pe_LR x D)
      rw [hRc, List.append_nil] at this
      exact this
    by_cases c : v = 255
    · rw [if_pos c, if_neg (by decide)]
      simp only [Option.bind_some]
      refine ⟨μ, rfl, ?_, pw_fr.rfl⟩
      have e9 : pe_en x r (decide (v = 255)) D = D := by
        unfold pe_en pe_B
        rw [hRc, c]
        have := pe_LR x D
        rw [hRc] at this
        simpa using this
      rw [e9]
      exact h
    · rw [if_neg c, if_pos rfl]
      have hl2 : D.length < 66 := hl.elim id (fun hc => absurd (by unfold pe_find; rw [hRc]) hc)
      obtain ⟨μ', e, q, g⟩ := pd_insert (s := s) hD (i := (pe_L x D).length) (r := r) (by rw [hml]; omega) (by rw [hml]; exact hl2) hr
      rw [e]
      refine ⟨μ', rfl, hkeep μ' _ g ?_ ?_, g⟩
      · rw [htk, hdr, hRc] at q
        unfold pe_en pe_B
        rw [hRc]
        simpa [c] using q
      · intro e9 he
        unfold pe_en pe_B at he
        rw [hRc] at he
        simp [c] at he
        rcases he with he | he
        · exact Or.inl (hR e9 he)
        · exact Or.inr he
  | cons e t =>
    have he : e ∈ D := hRR e (by rw [hRc]; exact List.mem_cons_self)
    have ht : ∀ q ∈ t, q ∈ D := fun q hq => hRR q (by rw [hRc]; exact List.mem_cons_of_mem _ hq)
    obtain ⟨f1, f2⟩ := h.2 e he
    have her : σ e.2 = some (.inr 4) := hD.2.2.2.2.2.2 e.2 (List.mem_map_of_mem he)
    have hlt : (pe_L x D).length < D.length := by
      have := congrArg List.length (pe_LR x D)
      rw [List.length_append, hRc, List.length_cons] at this
      omega
    simp only [List.getElem?_cons_zero, Option.map_some]
    rw [if_neg (fun hc => nomatch hc), pg_R_2, pw_ob_of her]
    simp only [Option.map_some, Option.bind_some, f1]
    have e9 := lN_eq63 (a := e.1) (b := x) (by omega) (by omega)
    by_cases cx : e.1 = x
    · rw [if_pos ((lg_cmp_eq _ _).mpr (e9.mpr cx))]
      simp only [Option.bind_some]
      by_cases c : v = 255
      · rw [if_pos c, if_neg (by decide), if_neg (by decide)]
        obtain ⟨μ', e1, q, g⟩ := pd_takeOut (s := s) hD (i := (pe_L x D).length) (by rw [hml]; exact hlt)
        rw [e1]
        refine ⟨μ', rfl, hkeep μ' _ g ?_ ?_, g⟩
        · have e5 : (D.map Prod.snd).eraseIdx (pe_L x D).length = (pe_L x D ++ t).map Prod.snd := by
            have : D.map Prod.snd = (pe_L x D).map Prod.snd ++ e.2 :: t.map Prod.snd := by
              have := congrArg (List.map Prod.snd) (pe_LR x D)
              rw [hRc, List.map_append, List.map_cons] at this
              exact this.symm
            rw [this, List.eraseIdx_append_of_length_le (by rw [List.length_map]; exact Nat.le_refl _), List.length_map, Nat.sub_self, List.eraseIdx_cons_zero, List.map_append]
          rw [e5] at q
          unfold pe_en pe_B
          rw [hRc]
          simpa [c, cx] using q
        · intro q hq
          unfold pe_en pe_B at hq
          rw [hRc] at hq
          simp only [c, cx] at hq
          simp at hq
          rcases hq with hq | hq
          · exact Or.inl (hR q hq)
          · exact Or.inl (ht q hq)
      · rw [if_neg c, if_pos rfl, if_neg (by decide)]
        obtain ⟨μ', e1, q, g⟩ := pd_setRow (s := s) hD (i := (pe_L x D).length) (r := r) (by rw [hml]; exact hlt) hr
        rw [e1]
        refine ⟨μ', rfl, hkeep μ' _ g ?_ ?_, g⟩
        · have e5 : (D.map Prod.snd).set (pe_L x D).length r = (pe_L x D ++ (x, r) :: t).map Prod.snd := by
            have : D.map Prod.snd = (pe_L x D).map Prod.snd ++ e.2 :: t.map Prod.snd := by
              have := congrArg (List.map Prod.snd) (pe_LR x D)
              rw [hRc, List.map_append, List.map_cons] at this
              exact this.symm
            rw [this, List.set_append_right _ _ (by rw [List.length_map]; exact Nat.le_refl _), List.length_map, Nat.sub_self, List.set_cons_zero, List.map_append, List.map_cons]
          rw [e5] at q
          unfold pe_en pe_B
          rw [hRc]
          simpa [c, cx] using q
        · intro q hq
          unfold pe_en pe_B at hq
          rw [hRc] at hq
          simp only [c, cx] at hq
          simp at hq
          rcases hq with hq | hq | hq
          · exact Or.inl (hR q hq)
          · exact Or.inr hq
          · exact Or.inl (ht q hq)
    · rw [if_neg (fun hc => cx (e9.mp ((lg_cmp_eq _ _).mp hc)))]
      simp only [Option.bind_some]
      by_cases c : v = 255
      · rw [if_pos c, if_neg (by decide), if_pos trivial]
        refine ⟨μ, rfl, ?_, pw_fr.rfl⟩
        have e9 : pe_en x r (decide (v = 255)) D = D := by
          unfold pe_en pe_B
          rw [hRc, c]
          have := pe_LR x D
          rw [hRc] at this
          simpa [cx] using this
        rw [e9]
        exact h
      · rw [if_neg c, if_pos rfl, if_pos trivial]
        have hl2 : D.length < 66 := hl.elim id (fun hc => absurd (by unfold pe_find; rw [hRc]; exact if_neg cx) hc)
        obtain ⟨μ', e1, q, g⟩ := pd_insert (s := s) hD (i := (pe_L x D).length) (r := r) (by rw [hml]; omega) (by rw [hml]; exact hl2) hr
        rw [e1]
        refine ⟨μ', rfl, hkeep μ' _ g ?_ ?_, g⟩
        · rw [htk, hdr, hRc] at q
          unfold pe_en pe_B
          rw [hRc]
          simpa [c, cx] using q
        · intro q hq
          unfold pe_en pe_B at hq
          rw [hRc] at hq
          simp [c, cx] at hq
          rcases hq with hq | hq | hq | hq
          · exact Or.inl (hR q hq)
          · exact Or.inr hq
          · exact Or.inl (by rw [hq]; exact he)
          · exact Or.inl (ht q hq)
end
theorem pe_L_map {α β : Type} (g : α → β) (x : Nat) : ∀ D : List (Nat × α), pe_L x (D.map fun e => (e.1, g e.2)) = (pe_L x D).map fun e => (e.1, g e.2)
  | [] => rfl
  | e :: t => by
    have ih := pe_L_map g x t
    unfold pe_L at ih ⊢
    rw [List.map_cons, List.takeWhile_cons, List.takeWhile_cons]
    by_cases c : e.1 < x
    · rw [if_pos (decide_eq_true c), if_pos (decide_eq_true c), List.map_cons, ih]
    · rw [if_neg (by simpa using c), if_neg (by simpa using c), List.map_nil]
theorem pe_R_map {α β : Type} (g : α → β) (x : Nat) : ∀ D : List (Nat × α), pe_R x (D.map fun e => (e.1, g e.2)) = (pe_R x D).map fun e => (e.1, g e.2)
  | [] => rfl
  | e :: t => by
    have ih := pe_R_map g x t
    unfold pe_R at ih ⊢
    rw [List.map_cons, List.dropWhile_cons, List.dropWhile_cons]
    by_cases c : e.1 < x
    · rw [if_pos (decide_eq_true c), if_pos (decide_eq_true c), ih]
    · rw [if_neg (by simpa using c), if_neg (by simpa using c), List.map_cons]
theorem pe_find_map {α β : Type} (g : α → β) (x : Nat) (D : List (Nat × α)) : pe_find x (D.map fun e => (e.1, g e.2)) = (pe_find x D).map g := by
  unfold pe_find
  rw [pe_R_map]
  cases pe_R x D with
  | nil => rfl
  | cons e t =>
    show (if e.1 = x then some (g e.2) else none) = Option.map g (if e.1 = x then some e.2 else none)
    split <;> rfl
theorem pe_en_map {α β : Type} (g : α → β) (x : Nat) (a : α) (b : Bool) (D : List (Nat × α)) : pe_en x (g a) b (D.map fun e => (e.1, g e.2)) = (pe_en x a b D).map fun e => (e.1, g e.2) := by
  unfold pe_en pe_B
  rw [pe_L_map, pe_R_map]
  cases pe_R x D with
  | nil => cases b <;> simp
  | cons e t => cases b <;> by_cases c : e.1 = x <;> simp [c]
