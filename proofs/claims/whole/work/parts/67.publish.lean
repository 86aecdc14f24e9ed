/-! ===== a file learns; a merge's output becomes a file ===== -/
/-- what a file knows when it is learned anew -/
def pt_learn (t : qf) (hints : Bool) : qf := match (if hints then pn_hint t.2.2.2.1 t.2.1.length else none) with
  | some rs => (t.1, t.2.1, t.2.1.length, t.2.2.2.1, rs)
  | none => (t.1, t.2.1.take (pn_lrn t.2.1 11 0).2, (t.2.1.take (pn_lrn t.2.1 11 0).2).length, t.2.2.2.1, (pn_lrn t.2.1 11 0).1)
/-- an entry of a hint -/
def pn_ent (B : List Nat) (r : qr) : List Nat := (B.drop (r.1 + 4)).take 4 ++ ([r.1] ++ (B.drop (r.1 + 8)).take r.2.1)
def pn_ents (B : List Nat) : List qr → List Nat
  | [] => []
  | r :: t => pn_ent B r ++ pn_ents B t
/-- a hint -/
def pn_mkh (B : List Nat) (rs : List qr) : List Nat := pn_ents B rs ++ pn_bys (lN (pn_sumL (pn_ents B rs))) 4
theorem pn_ents_app (B : List Nat) : ∀ l m, pn_ents B (l ++ m) = pn_ents B l ++ pn_ents B m
  | [], _ => rfl
  | r :: t, m => by rw [List.cons_append, pn_ents, pn_ents, pn_ents_app B t m, List.append_assoc]
theorem pn_ent_len {B : List Nat} {r : qr} (h : r.1 + 8 + r.2.1 ≤ B.length) : (pn_ent B r).length = 5 + r.2.1 := by
  unfold pn_ent
  simp only [List.length_append, List.length_take, List.length_drop, List.length_singleton]
  omega
theorem pn_ent_qB {B : List Nat} (hB : qB B) {r : qr} (h : r.1 < 256) : qB (pn_ent B r) := (hB.dt _ _).app ((qB.one h).app (hB.dt _ _))
theorem pn_ents_qB {B : List Nat} (hB : qB B) : ∀ rs : List qr, (∀ r ∈ rs, r.1 < 256) → qB (pn_ents B rs)
  | [], _ => fun b hb => nomatch hb
  | r :: t, h => (pn_ent_qB hB (h r List.mem_cons_self)).app (pn_ents_qB hB t (fun q hq => h q (List.mem_cons_of_mem _ hq)))
theorem pn_mkh_qB {B : List Nat} (hB : qB B) {rs : List qr} (h : ∀ r ∈ rs, r.1 < 256) : qB (pn_mkh B rs) := (pn_ents_qB hB rs h).app (pn_bys_qB _ _)
section
variable {σ : Nat → Option pw_Sh} {μ μ' : pw_Mem} {s : Option Nat} {f : Nat} {t : qf}
theorem qF_learn (h : qF σ μ f t) (hB : qB t.2.1) (hH : qB t.2.2.2.1) (b : Bool) : pT σ s (fun μ' => qF σ μ' f (pt_learn t b) ∧ pw_fr μ μ' (pw_in f)) (f_F_learn (s, pw_lay σ μ) (some f) (if b then 1 else 0)) := by
  unfold f_F_learn pt_learn
  have fin : ∀ (μ1 : pw_Mem) (u : qf), qF σ μ1 f u → pw_fr μ μ1 (pw_in f) → pT σ s (fun μ' => qF σ μ' f (u.1, u.2.1, u.2.1.length, u.2.2.2) ∧ pw_fr μ μ' (pw_in f)) ((aw_obj (s, pw_lay σ μ1) (some f) 6).bind fun _ => (f_F_syncAll (s, pw_lay σ μ1) (some f)).bind fun v9 => some v9) := by
    intro μ1 u q g
    obtain ⟨μ2, e, q2, g2⟩ := qF_sync (s := s) q
    rw [qF_ob q, Option.bind_some, e]
    exact ⟨μ2, rfl, q2, g.trans (g2.mono (fun a ha => by unfold pw_in; omega))⟩
  have byB : ∀ (μ1 : pw_Mem) (rs : List qr), qF σ μ1 f (t.1, t.2.1, t.2.2.1, t.2.2.2.1, rs) → pw_fr μ μ1 (pw_in f) → ∃ μ2, f_F_learnFromBytes (s, pw_lay σ μ1) (some f) = some (s, pw_lay σ μ2) ∧ qF σ μ2 f (t.1, t.2.1.take (pn_lrn t.2.1 11 0).2, t.2.2.1, t.2.2.2.1, (pn_lrn t.2.1 11 0).1) ∧ pw_fr μ μ2 (pw_in f) := by
    intro μ1 rs q g
    obtain ⟨μ2, e, q2, g2⟩ := qF_lrn (s := s) q hB
    exact ⟨μ2, e, q2, g.trans g2⟩
  cases b with
  | false =>
    obtain ⟨μ2, e, q2, g2⟩ := byB μ _ h pw_fr.rfl
    simp only [Bool.false_eq_true, if_false, if_true, qF_ob h, Option.bind_some, e]
    exact fin μ2 _ q2 g2
  | true =>
    obtain ⟨a, μ1, e, g, hc⟩ := qF_hint (s := s) h hH
    have h10 : ¬ (1 : Int32) = 0 := by decide
    simp only [if_true, if_neg h10, qF_ob h, Option.bind_some, e]
    rcases hc with ⟨rfl, rs, hr, q⟩ | ⟨rfl, hr, rs, q⟩
    · simp only [Option.bind_some, if_neg h10, hr]
      exact fin μ1 _ q g
    · obtain ⟨μ2, e2, q2, g2⟩ := byB μ1 _ q g
      simp only [Option.bind_some, if_true, hr, qF_ob q, e2]
      exact fin μ2 _ q2 g2
/-- the hint of a file changes -/
theorem qF_hbytes (h : qF σ μ f t) {H : List Nat} (g : pw_fr μ μ' (fun a => a = f + 3 ∨ a = f + 4)) (hO : pw_OL σ μ' (f + 3) 104 (H.map nI)) : qF σ μ' f (t.1, t.2.1, t.2.2.1, H, t.2.2.2.2) := by
  obtain ⟨h1, h2, h3, h4, h5, h6, h7, h8, h9⟩ := h
  have hf := g f (by omega)
  refine ⟨h1, ?_, pl_fr h3 g (by omega) (by omega), hO, by rw [hf.1]; exact h5, by rw [hf.1]; exact h6, by rw [hf.1]; exact h7, h8, fun i r hr => (h9 i r hr).keep (g _ (by omega))⟩
  obtain ⟨a0, a1, a2, a3, a4, a5⟩ := h2
  exact ⟨by rw [hf.2.2]; exact a0, by rw [hf.2.2]; exact a1, by rw [hf.2.2]; exact a2, by rw [(g (f + 1) (by omega)).2.2]; exact a3, hO.1.2.2.1, fun k hk => by rw [(g (f + 5) (by omega)).2.2]; exact a5 k hk⟩
theorem qF_habs (h : qF σ μ f t) {l : List Int32} {L : List Nat} (hl : l.map (fun x => x &&& 255) = L.map nI) (hr : t.2.2.2.1.length + L.length ≤ 104) : qF σ (pw_abs μ (f + 3) t.2.2.2.1.length l) f (t.1, t.2.1, t.2.2.1, t.2.2.2.1 ++ L, t.2.2.2.2) ∧ pw_fr μ (pw_abs μ (f + 3) t.2.2.2.1.length l) (fun a => a = f + 3 ∨ a = f + 4) := by
  have hlen : l.length = L.length := by
    have := congrArg List.length hl
    rwa [List.length_map, List.length_map] at this
  have k1 := pl_abs l μ (t.2.2.2.1.map nI) h.2.2.2.1 (by rw [pw_map_len, hlen]; exact hr)
  rw [hl, ← List.map_append, pw_map_len] at k1
  have g1 : pw_fr μ (pw_abs μ (f + 3) t.2.2.2.1.length l) (fun a => a = f + 3 ∨ a = f + 4) := pw_fr.abs (Or.inl rfl) (Or.inr rfl) _ _ _
  exact ⟨qF_hbytes h g1 k1, g1⟩
theorem qF_hfrom (h : qF σ μ f t) (hB : qB t.2.1) {p k : Nat} (hp : p + k ≤ t.2.1.length) (hr : t.2.2.2.1.length + k ≤ 104) : ∃ μ', f_O_addFrom (s, pw_lay σ μ) (some (f + 3)) (some (f + 1)) (nI p) (nI k) = some (s, pw_lay σ μ') ∧ qF σ μ' f (t.1, t.2.1, t.2.2.1, t.2.2.2.1 ++ (t.2.1.drop p).take k, t.2.2.2.2) ∧ pw_fr μ μ' (fun a => a = f + 3 ∨ a = f + 4) := by
  have hl := qF_len h
  have e := po_addFrom (s := s) h.2.2.2.1.1 h.2.2.1.1 (by omega) (by omega) (by omega) (p := p) (k := k) (by rw [pw_map_len]; exact hr) (by omega)
  rw [h.2.2.1.bz, pn_run_map t.2.1 p k hp, pw_map_len] at e
  have hk : ((t.2.1.drop p).take k).length = k := by rw [List.length_take, List.length_drop]; omega
  obtain ⟨q, g⟩ := qF_habs h (L := (t.2.1.drop p).take k) (map_255 (hB.dt p k)) (by rw [hk]; exact hr)
  exact ⟨_, e, q, g⟩
theorem qF_hbyte (h : qF σ μ f t) {x : Nat} (hx : x < 256) (hr : t.2.2.2.1.length + 1 ≤ 104) : ∃ μ', f_O_addByte (s, pw_lay σ μ) (some (f + 3)) (nI x) = some (s, pw_lay σ μ') ∧ qF σ μ' f (t.1, t.2.1, t.2.2.1, t.2.2.2.1 ++ [x], t.2.2.2.2) ∧ pw_fr μ μ' (fun a => a = f + 3 ∨ a = f + 4) := by
  have e := po_addByte (s := s) h.2.2.2.1.1 (by rw [pw_map_len]; omega) (nI x)
  rw [pw_map_len] at e
  obtain ⟨q, g⟩ := qF_habs h (l := [nI x]) (L := [x]) (by rw [List.map_singleton, nI_255 hx]; rfl) hr
  exact ⟨_, e, q, g⟩
theorem qF_hnumber (h : qF σ μ f t) (v : Int64) {k : Nat} (hk : k ≤ 8) (hr : t.2.2.2.1.length + k ≤ 104) : ∃ μ', f_O_addNumber (s, pw_lay σ μ) (some (f + 3)) v (nI k) = some (s, pw_lay σ μ') ∧ qF σ μ' f (t.1, t.2.1, t.2.2.1, t.2.2.2.1 ++ pn_bys v k, t.2.2.2.2) ∧ pw_fr μ μ' (fun a => a = f + 3 ∨ a = f + 4) := by
  have e := po_addNumber (s := s) v k μ _ h.2.2.2.1.1 (by rw [pw_map_len]; exact hr)
  rw [pw_map_len] at e
  obtain ⟨q, g⟩ := qF_habs h (l := pw_nb v k) (L := pn_bys v k) (pw_nb_bys v k hk) (by rw [pn_bys_len]; exact hr)
  exact ⟨_, e, q, g⟩
theorem qF_setNumber (h : qF σ μ f t) (n : Nat) : qF σ (pw_sI μ f 4 (nI n)) f (n, t.2) := by
  obtain ⟨h1, h2, h3, h4, h5, h6, h7, h8, h9⟩ := h
  refine ⟨h1, h2, pl_keep h3 (pw_sI_off (by omega)) (pw_sI_off (by omega)) rfl, pl_keep h4 (pw_sI_off (by omega)) (pw_sI_off (by omega)) rfl, ?_, ?_, ?_, h8, fun i r hr => (h9 i r hr).keep ⟨pw_sI_off (by omega), rfl, rfl⟩⟩
  · rw [pw_sI_I, if_pos ⟨rfl, rfl⟩]
  · rw [pw_sI_I, if_neg (by omega)]; exact h6
  · rw [pw_sI_I, if_neg (by omega)]; exact h7
theorem qF_gr (h : qF σ μ f t) {i : Nat} {r : qr} (hr : t.2.2.2.2[i]? = some r) (hk : r.2.1 < 8) : aw_gI (s, pw_lay σ μ) (some (f + 6 + i)) 4 1 = some (nI r.1) ∧ f_R_keySize (s, pw_lay σ μ) (some (f + 6 + i)) = some (nI r.2.1) ∧ aw_gL (s, pw_lay σ μ) (some (f + 6 + i)) 4 2 = some (lN (pn_rank r.2.1 r.2.2.1)) ∧ aw_gI (s, pw_lay σ μ) (some (f + 6 + i)) 4 3 = some (nI r.2.2.2) ∧ aw_gR (s, pw_lay σ μ) (some (f + 6 + i)) 4 0 = some (some f) := by
  have hi : i < t.2.2.2.2.length := (List.getElem?_eq_some_iff.mp hr).1
  have h8 := h.2.2.2.2.2.2.2.1
  obtain ⟨r1, r2, r3, r4⟩ := h.2.2.2.2.2.2.2.2 i r hr
  have ho := h.1.2.2.2.2.2.2 i (by omega)
  refine ⟨?_, ?_, ?_, ?_, ?_⟩
  · rw [pg_R_1, pw_ob_of ho]
    exact congrArg some r2
  · unfold f_R_keySize
    rw [pg_R_2, pw_ob_of ho]
    simp only [Option.map_some, Option.bind_some, r3]
    rw [pk_size hk]
    rfl
  · rw [pg_R_2, pw_ob_of ho]
    exact congrArg some r3
  · rw [pg_R_3, pw_ob_of ho]
    exact congrArg some r4
  · rw [pg_R_0, pw_ob_of ho]
    exact congrArg some r1
theorem pn_ents_take {B : List Nat} {rs : List qr} (h : (pn_ents B rs).length ≤ 100) (i : Nat) : (pn_ents B (rs.take i)).length ≤ 100 := by
  have := pn_ents_app B (rs.take i) (rs.drop i)
  rw [List.take_append_drop] at this
  rw [this, List.length_append] at h
  omega
theorem qF_publish (h : qF σ μ f t) (hB : qB t.2.1) (hH : t.2.2.2.1 = []) (hr : ∀ r ∈ t.2.2.2.2, r.1 + 8 + r.2.1 ≤ t.2.1.length ∧ r.2.1 ≤ 4) (hs : (pn_ents t.2.1 t.2.2.2.2).length ≤ 100) (n : Nat) : pT σ s (fun μ' => qF σ μ' f (n, t.2.1, t.2.1.length, pn_mkh t.2.1 t.2.2.2.2, t.2.2.2.2) ∧ pw_fr μ μ' (fun a => a = f ∨ a = f + 3 ∨ a = f + 4)) (f_F_publishAs (s, pw_lay σ μ) (some f) (nI n)) := by
  have hl := qF_len h
  have h11 := h.2.2.2.2.2.2.2.1
  have hrB : ∀ r ∈ t.2.2.2.2, r.1 < 256 := fun r h => by have := (hr r h).1; omega
  unfold f_F_publishAs
  rw [pp_F_4, pw_ob_of h.1.1]
  simp only [Option.map_some, Option.bind_some]
  have q1 := qF_setNumber h n
  obtain ⟨μ1, e1, q0, g2⟩ := qF_sync (s := s) q1
  have q2 : qF σ μ1 f (n, t.2.1, t.2.1.length, [], t.2.2.2.2) := by
    have e : t.2.2.2 = ([], t.2.2.2.2) := Prod.ext hH rfl
    rw [← e]
    exact q0
  have g3 : pw_fr μ μ1 (fun a => a = f ∨ a = f + 3 ∨ a = f + 4) := (pw_fr.sI (Or.inl rfl)).trans (g2.mono (fun a ha => Or.inl ha))
  rw [qF_ob q1, Option.bind_some, e1]
  simp only [Option.bind_some]
  refine pw_loopG (G := pT σ s _) t.2.2.2.2.length (fun m a => ∃ i μ1, a = (nI i, (s, pw_lay σ μ1)) ∧ qF σ μ1 f (n, t.2.1, t.2.1.length, pn_ents t.2.1 (t.2.2.2.2.take i), t.2.2.2.2) ∧ pw_fr μ μ1 (fun a => a = f ∨ a = f + 3 ∨ a = f + 4) ∧ m + i = t.2.2.2.2.length)
    (fun a => ∃ μ1, a = (nI t.2.2.2.2.length, (s, pw_lay σ μ1)) ∧ qF σ μ1 f (n, t.2.1, t.2.1.length, pn_ents t.2.1 t.2.2.2.2, t.2.2.2.2) ∧ pw_fr μ μ1 (fun a => a = f ∨ a = f + 3 ∨ a = f + 4)) ⟨0, μ1, rfl, q2, g3, rfl⟩ ?_ ?_
  · rintro m a ⟨i, μ2, rfl, q, g, hm⟩
    dsimp only
    rw [qF_g3 q, Option.bind_some]
    dsimp only
    by_cases hi : i < t.2.2.2.2.length
    · obtain ⟨r, hri⟩ : ∃ r, t.2.2.2.2[i]? = some r := ⟨_, List.getElem?_eq_getElem hi⟩
      have hmem := List.mem_of_getElem? hri
      obtain ⟨c1, c2⟩ := hr r hmem
      have htk := pn_ents_take hs i
      have htk1 := pn_ents_take hs (i + 1)
      rw [List.take_add_one, hri, Option.toList_some, pn_ents_app, pn_ents, pn_ents, List.append_nil, List.length_append, pn_ent_len c1] at htk1
      obtain ⟨v1, v2, -⟩ := qF_gr (s := s) q (i := i) hri (by omega)
      obtain ⟨μ3, e3, q3, g3⟩ := qF_hfrom (s := s) q hB (p := r.1 + 4) (k := 4) (by dsimp only; omega) (by dsimp only; omega)
      obtain ⟨μ4, e4, q4, g4⟩ := qF_hbyte (s := s) q3 (x := r.1) (by omega) (by dsimp only; rw [List.length_append, List.length_take, List.length_drop]; omega)
      obtain ⟨μ5, e5, q5, g5⟩ := qF_hfrom (s := s) q4 hB (p := r.1 + 8) (k := r.2.1) (by dsimp only; omega) (by dsimp only; rw [List.length_append, List.length_append, List.length_take, List.length_drop, List.length_singleton]; omega)
      obtain ⟨-, w2, -⟩ := qF_gr (s := s) q4 (i := i) hri (by omega)
      left
      refine ⟨m - 1, (nI (i + 1), (s, pw_lay σ μ5)), by omega, ?_, i + 1, μ5, rfl, ?_, ((g.trans (g3.mono (fun a ha => Or.inr ha))).trans (g4.mono (fun a ha => Or.inr ha))).trans (g5.mono (fun a ha => Or.inr ha)), by omega⟩
      · rw [if_neg (nI_ge hi (by omega))]
        simp only [qF_g0 q, qF_g1 q, qF_g2 q, qF_rec q (show i < 11 by omega), qF_ob3 q, v1, Option.bind_some]
        rw [show (4 : Int32) = nI 4 from rfl, nI_add, e3]
        simp only [Option.bind_some, qF_g1 q3, qF_ob3 q3, e4]
        simp only [Option.bind_some, qF_g0 q4, qF_g1 q4, qF_g2 q4, qF_rec q4 (show i < 11 by omega), qF_ob3 q4, qF_rob q4 (show i < 11 by omega), w2]
        rw [show nI r.1 + (8 : Int32) = nI (r.1 + 8) from nI_add _ 8, e5]
        simp only [Option.bind_some]
        rw [nI_1]
      · have e9 : pn_ents t.2.1 (t.2.2.2.2.take (i + 1)) = pn_ents t.2.1 (t.2.2.2.2.take i) ++ (t.2.1.drop (r.1 + 4)).take 4 ++ [r.1] ++ (t.2.1.drop (r.1 + 8)).take r.2.1 := by
          rw [List.take_add_one, hri, Option.toList_some, pn_ents_app, pn_ents, pn_ents, List.append_nil]
          unfold pn_ent
          simp only [List.append_assoc]
        rw [e9]
        exact q5
    · right
      have hi2 : i = t.2.2.2.2.length := by omega
      rw [hi2, List.take_length] at q
      exact ⟨_, if_pos (nI_le (by omega) (by omega)), μ2, by rw [hi2], q, g⟩
  · rintro a ⟨μ2, rfl, q, g⟩
    have hsum := qF_hsum (s := s) q (pn_ents_qB hB _ hrB) (k := (pn_ents t.2.1 t.2.2.2.2).length) (by omega)
    obtain ⟨μ3, e3, q3, g3⟩ := qF_hnumber (s := s) q (lN (pn_sumL (pn_ents t.2.1 t.2.2.2.2))) (k := 4) (by decide) (by dsimp only; omega)
    dsimp only
    simp only [qF_g1 q, qF_ob3 q, qF_hsize q, Option.bind_some]
    rw [hsum]
    simp only [Option.bind_some]
    rw [show (4 : Int32) = nI 4 from rfl]
    unfold pn_sumL at e3
    rw [e3]
    exact ⟨μ3, rfl, q3, g.trans (g3.mono (fun a ha => Or.inr ha))⟩
end
