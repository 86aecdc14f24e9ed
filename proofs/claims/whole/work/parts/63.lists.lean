/-! ===== files as lists: what an operation leaves as it was ===== -/
/-- a record: its place, its key's size, its key, its value's size -/
abbrev qr : Type := Nat × Nat × Nat × Nat
/-- a file: number, bytes, how many are synced, hint, records -/
abbrev qf : Type := Nat × List Nat × Nat × List Nat × List qr
/-- outside of P nothing has changed -/
def pw_fr (μ μ' : pw_Mem) (P : Nat → Prop) : Prop := ∀ a, ¬ P a → μ'.1 a = μ.1 a ∧ μ'.2.1 a = μ.2.1 a ∧ μ'.2.2 a = μ.2.2 a
/-- the cells of the file at f -/
def pw_in (f : Nat) (a : Nat) : Prop := f ≤ a ∧ a < f + 17
theorem pw_fr.rfl {μ : pw_Mem} {P : Nat → Prop} : pw_fr μ μ P := fun _ _ => ⟨Eq.refl _, Eq.refl _, Eq.refl _⟩
theorem pw_fr.trans {μ μ' μ'' : pw_Mem} {P : Nat → Prop} (h : pw_fr μ μ' P) (g : pw_fr μ' μ'' P) : pw_fr μ μ'' P := fun a ha => ⟨(g a ha).1.trans (h a ha).1, (g a ha).2.1.trans (h a ha).2.1, (g a ha).2.2.trans (h a ha).2.2⟩
theorem pw_fr.mono {μ μ' : pw_Mem} {P Q : Nat → Prop} (h : pw_fr μ μ' P) (hq : ∀ a, P a → Q a) : pw_fr μ μ' Q := fun a ha => h a (fun hp => ha (hq a hp))
theorem pw_fr.sI {μ : pw_Mem} {P : Nat → Prop} {a k : Nat} {x : Int32} (h : P a) : pw_fr μ (pw_sI μ a k x) P := fun b hb => ⟨pw_sI_off (fun e => hb (e ▸ h)), Eq.refl _, Eq.refl _⟩
theorem pw_fr.sL {μ : pw_Mem} {P : Nat → Prop} {a k : Nat} {x : Int64} (h : P a) : pw_fr μ (pw_sL μ a k x) P := fun b hb => ⟨Eq.refl _, pw_sL_off (fun e => hb (e ▸ h)), Eq.refl _⟩
theorem pw_fr.sR {μ : pw_Mem} {P : Nat → Prop} {a k : Nat} {x : Option Nat} (h : P a) : pw_fr μ (pw_sR μ a k x) P := fun b hb => ⟨Eq.refl _, Eq.refl _, pw_sR_off (fun e => hb (e ▸ h))⟩
theorem pw_fr.abs {P : Nat → Prop} {o : Nat} (h1 : P o) (h2 : P (o + 1)) (μ : pw_Mem) (n : Nat) (l : List Int32) : pw_fr μ (pw_abs μ o n l) P := fun b hb => ⟨pw_abs_off (a := b) (o := o) (fun e => hb (by rw [e]; exact h1)) (fun e => hb (by rw [e]; exact h2)) l μ n, by rw [pw_abs_R], by rw [pw_abs_R]⟩
theorem pw_fr.s4 {P : Nat → Prop} {o : Nat} (h2 : P (o + 1)) (μ : pw_Mem) (p : Nat) (v : Int64) (k : Nat) : pw_fr μ (pw_s4 μ o p v k) P := fun b hb => ⟨pw_s4_off (a := b) (o := o) (fun e => hb (by rw [e]; exact h2)) k, by rw [pw_s4_R], by rw [pw_s4_R]⟩
theorem pw_fr.cutm {P : Nat → Prop} {μ : pw_Mem} {o n k : Nat} (h : P o) : pw_fr μ (pw_cutm μ o n k) P := fun b hb => ⟨pw_cutm_off (fun e => hb (e ▸ h)), by rw [pw_cutm_R], by rw [pw_cutm_R]⟩
theorem pw_fr.note {P : Nat → Prop} {μ : pw_Mem} {f c : Nat} {p : Int32} {rank : Int64} {v : Int32} {src : Option Nat} (h1 : P f) (h2 : P (f + 6 + c)) : pw_fr μ (pw_note μ f c p rank v src) P := by
  unfold pw_note
  exact (((((pw_fr.sI h1).trans (pw_fr.sR h2)).trans (pw_fr.sI h2)).trans (pw_fr.sL h2)).trans (pw_fr.sI h2)).trans (pw_fr.sR h2)
/-- the record r lies at a -/
def qR (μ : pw_Mem) (f a : Nat) (r : qr) : Prop := μ.2.2 a 0 = some f ∧ μ.1 a 1 = nI r.1 ∧ μ.2.1 a 2 = lN (pn_rank r.2.1 r.2.2.1) ∧ μ.1 a 3 = nI r.2.2.2
/-- the file t lies at f -/
def qF (σ : Nat → Option pw_Sh) (μ : pw_Mem) (f : Nat) (t : qf) : Prop := pw_blk σ f ∧ pw_Fp μ.2.2 f ∧ pw_OL σ μ (f + 1) 100 (t.2.1.map nI) ∧ pw_OL σ μ (f + 3) 104 (t.2.2.2.1.map nI) ∧ μ.1 f 4 = nI t.1 ∧ μ.1 f 5 = nI t.2.2.1 ∧ μ.1 f 3 = nI t.2.2.2.2.length ∧ t.2.2.2.2.length ≤ 11 ∧ ∀ i r, t.2.2.2.2[i]? = some r → qR μ f (f + 6 + i) r
theorem qR.keep {μ μ' : pw_Mem} {f a : Nat} {r : qr} (h : qR μ f a r) (e : μ'.1 a = μ.1 a ∧ μ'.2.1 a = μ.2.1 a ∧ μ'.2.2 a = μ.2.2 a) : qR μ' f a r := by
  obtain ⟨h1, h2, h3, h4⟩ := h
  exact ⟨by rw [e.2.2]; exact h1, by rw [e.1]; exact h2, by rw [e.2.1]; exact h3, by rw [e.1]; exact h4⟩
theorem pl_fr {σ : Nat → Option pw_Sh} {μ μ' : pw_Mem} {o cap : Nat} {B : List Int32} {P : Nat → Prop} (h : pw_OL σ μ o cap B) (g : pw_fr μ μ' P) (h1 : ¬ P o) (h2 : ¬ P (o + 1)) : pw_OL σ μ' o cap B := pl_keep h (g o h1).1 (g (o + 1) h2).1 (g o h1).2.2
theorem qF.fr {σ : Nat → Option pw_Sh} {μ μ' : pw_Mem} {f : Nat} {t : qf} {P : Nat → Prop} (h : qF σ μ f t) (g : pw_fr μ μ' P) (hP : ∀ a, pw_in f a → ¬ P a) : qF σ μ' f t := by
  obtain ⟨h1, h2, h3, h4, h5, h6, h7, h8, h9⟩ := h
  have hn : ∀ c, c < 17 → ¬ P (f + c) := fun c hc => hP _ ⟨by omega, by omega⟩
  have hf := g f (hn 0 (by decide))
  refine ⟨h1, h2.kept (fun b hb1 hb2 => (g b (hP b ⟨hb1, hb2⟩)).2.2), pl_fr h3 g (hn 1 (by decide)) (hn 2 (by decide)), pl_fr h4 g (hn 3 (by decide)) (hn 4 (by decide)), by rw [hf.1]; exact h5, by rw [hf.1]; exact h6, by rw [hf.1]; exact h7, h8, fun i r hr => ?_⟩
  have hi : i < t.2.2.2.2.length := (List.getElem?_eq_some_iff.mp hr).1
  exact (h9 i r hr).keep (g _ (hP _ ⟨by omega, by omega⟩))
/-- the blocks of two files are apart -/
def pw_ap (f g : Nat) : Prop := f + 17 ≤ g ∨ g + 17 ≤ f
theorem qF.off {σ : Nat → Option pw_Sh} {μ μ' : pw_Mem} {f g : Nat} {t : qf} (h : qF σ μ f t) (e : pw_fr μ μ' (pw_in g)) (d : pw_ap f g) : qF σ μ' f t := h.fr e (fun a ha hc => by
  unfold pw_in at ha hc
  rcases d with d | d <;> omega)
theorem pw_map_len (B : List Nat) : (B.map nI).length = B.length := List.length_map nI
theorem pw_map_getD (B : List Nat) (i : Nat) : (B.map nI).getD i 0 = nI (B.getD i 0) := by
  unfold List.getD
  rw [List.getElem?_map]
  cases B[i]? <;> rfl
theorem pw_map_fun (B : List Nat) : (fun i => (B.map nI).getD i 0) = fun i => nI (B.getD i 0) := funext (pw_map_getD B)
/-- bytes -/
def qB (B : List Nat) : Prop := ∀ b ∈ B, b < 256
theorem qB.getD {B : List Nat} (h : qB B) (i : Nat) : B.getD i 0 < 256 := by
  unfold List.getD
  cases hb : B[i]? with
  | none => exact (by decide : (0 : Nat) < 256)
  | some b => exact h b (List.mem_of_getElem? hb)
section
variable {σ : Nat → Option pw_Sh} {μ : pw_Mem} {s : Option Nat} {f : Nat} {t : qf}
theorem qF_begin (h : qF σ μ f t) (n : Nat) : ∃ μ', f_F_begin (s, pw_lay σ μ) (some f) (nI n) = some (s, pw_lay σ μ') ∧ qF σ μ' f (n, [], 0, [], []) ∧ pw_fr μ μ' (pw_in f) := by
  obtain ⟨h1, h2, h3, h4, h5, h6, h7, h8, h9⟩ := h
  have g1 : pw_fr μ (pw_cutm (pw_cutm μ (f + 1) (t.2.1.map nI).length 0) (f + 3) (t.2.2.2.1.map nI).length 0) (pw_in f) := (pw_fr.cutm ⟨by omega, by omega⟩).trans (pw_fr.cutm ⟨by omega, by omega⟩)
  have k1 := pl_cut h3 0
  have k2 := pl_cut (pl_keep h4 (μ' := pw_cutm μ (f + 1) (t.2.1.map nI).length 0) (pw_cutm_off (by omega)) (pw_cutm_off (by omega)) (by rw [pw_cutm_R])) 0
  have k3 : pw_OL σ (pw_cutm (pw_cutm μ (f + 1) (t.2.1.map nI).length 0) (f + 3) (t.2.2.2.1.map nI).length 0) (f + 1) 100 ((t.2.1.map nI).take 0) := pl_keep k1 (pw_cutm_off (by omega)) (pw_cutm_off (by omega)) (by rw [pw_cutm_R]; rfl)
  refine ⟨_, pf_begin h1 h2 h3 h4 (nI n), ⟨h1, ?_, ?_, ?_, ?_, ?_, ?_, Nat.zero_le _, fun i r hr => by cases hr⟩, ((g1.trans (pw_fr.sI ⟨by omega, by omega⟩)).trans (pw_fr.sI ⟨by omega, by omega⟩)).trans (pw_fr.sI ⟨by omega, by omega⟩)⟩
  · show pw_Fp (pw_cutm (pw_cutm μ (f + 1) (t.2.1.map nI).length 0) (f + 3) (t.2.2.2.1.map nI).length 0).2.2 f
    rw [pw_cutm_R, pw_cutm_R]
    exact h2
  · exact pl_keep k3 ((pw_sI_off (by omega)).trans ((pw_sI_off (by omega)).trans (pw_sI_off (by omega)))) ((pw_sI_off (by omega)).trans ((pw_sI_off (by omega)).trans (pw_sI_off (by omega)))) rfl
  · exact pl_keep k2 ((pw_sI_off (by omega)).trans ((pw_sI_off (by omega)).trans (pw_sI_off (by omega)))) ((pw_sI_off (by omega)).trans ((pw_sI_off (by omega)).trans (pw_sI_off (by omega)))) rfl
  · rw [pw_sI_I, if_neg (by omega), pw_sI_I, if_pos ⟨rfl, rfl⟩]
  · rw [pw_sI_I, if_pos ⟨rfl, rfl⟩]
    rfl
  · rw [pw_sI_I, if_neg (by omega), pw_sI_I, if_neg (by omega), pw_sI_I, if_pos ⟨rfl, rfl⟩]
    rfl
theorem qF_sync (h : qF σ μ f t) : ∃ μ', f_F_syncAll (s, pw_lay σ μ) (some f) = some (s, pw_lay σ μ') ∧ qF σ μ' f (t.1, t.2.1, t.2.1.length, t.2.2.2) ∧ pw_fr μ μ' (fun a => a = f) := by
  obtain ⟨h1, h2, h3, h4, h5, h6, h7, h8, h9⟩ := h
  refine ⟨_, pf_syncAll h1 h2 h3.1, ⟨h1, h2, ?_, ?_, ?_, ?_, ?_, h8, fun i r hr => ?_⟩, pw_fr.sI rfl⟩
  · exact pl_keep h3 (pw_sI_off (by omega)) (pw_sI_off (by omega)) rfl
  · exact pl_keep h4 (pw_sI_off (by omega)) (pw_sI_off (by omega)) rfl
  · rw [pw_sI_I, if_neg (by omega)]; exact h5
  · rw [pw_sI_I, if_pos ⟨rfl, rfl⟩, pw_map_len]
  · rw [pw_sI_I, if_neg (by omega)]; exact h7
  · exact (h9 i r hr).keep ⟨pw_sI_off (by omega), rfl, rfl⟩
theorem qF_lose (h : qF σ μ f t) {m : Nat} (hm : t.2.2.1 + m < 2 ^ 31) : ∃ μ', f_F_losePower (s, pw_lay σ μ) (some f) (nI m) = some (s, pw_lay σ μ') ∧ qF σ μ' f (t.1, t.2.1.take (t.2.2.1 + m), (t.2.1.take (t.2.2.1 + m)).length, t.2.2.2) ∧ pw_fr μ μ' (pw_in f) := by
  obtain ⟨h1, h2, h3, h4, h5, h6, h7, h8, h9⟩ := h
  have k1 := pl_cut h3 (t.2.2.1 + m)
  rw [show (if t.2.2.1 + m < (t.2.1.map nI).length then pw_sI μ (f + 1) 1 (nI (t.2.2.1 + m)) else μ) = pw_cutm μ (f + 1) (t.2.1.map nI).length (t.2.2.1 + m) from rfl] at k1
  refine ⟨_, pf_losePower h1 h2 h3 h6 hm, ⟨h1, ?_, ?_, ?_, ?_, ?_, ?_, h8, fun i r hr => ?_⟩, (pw_fr.cutm ⟨by omega, by omega⟩).trans (pw_fr.sI ⟨by omega, by omega⟩)⟩
  · show pw_Fp (pw_cutm μ (f + 1) (t.2.1.map nI).length (t.2.2.1 + m)).2.2 f
    rw [pw_cutm_R]; exact h2
  · show pw_OL _ _ _ _ ((t.2.1.take (t.2.2.1 + m)).map nI)
    rw [List.map_take]
    exact pl_keep k1 (pw_sI_off (by omega)) (pw_sI_off (by omega)) rfl
  · refine pl_keep h4 ((pw_sI_off (by omega)).trans (pw_cutm_off (by omega))) ((pw_sI_off (by omega)).trans (pw_cutm_off (by omega))) ?_
    show (pw_cutm μ (f + 1) (t.2.1.map nI).length (t.2.2.1 + m)).2.2 _ = _
    rw [pw_cutm_R]
  · rw [pw_sI_I, if_neg (by omega), pw_cutm_off (by omega)]; exact h5
  · rw [pw_sI_I, if_pos ⟨rfl, rfl⟩, ← List.map_take, pw_map_len]
  · rw [pw_sI_I, if_neg (by omega), pw_cutm_off (by omega)]; exact h7
  · refine (h9 i r hr).keep ⟨(pw_sI_off (by omega)).trans (pw_cutm_off (by omega)), ?_, ?_⟩
    · show (pw_cutm μ (f + 1) (t.2.1.map nI).length (t.2.2.1 + m)).2.1 _ = _
      rw [pw_cutm_R]
    · show (pw_cutm μ (f + 1) (t.2.1.map nI).length (t.2.2.1 + m)).2.2 _ = _
      rw [pw_cutm_R]
end
