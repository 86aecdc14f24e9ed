/-! ===== what holds between calls ===== -/
def KW (b : Nat) (φ : Nat → qf) (sl : List Nat) (cnt : Nat) (act : Bool) (last time : Nat) (cl : Bool) (D : List (Nat × Nat × Nat)) (ou : List Nat) (made taken af ar : Nat) (src : Nat → Nat → Nat × Nat) : Prop :=
  (∀ f, isB b f → qV (φ f)) ∧ pk_ap sl ou ∧ (act = true → (φ (sl.getD (cnt - 1) 0)).1 = last) ∧ (cl = false → ∀ i, i < cnt → qCh 0 (φ (sl.getD i 0)).2.2.2.2 (φ (sl.getD i 0)).2.1.length) ∧ (dOK φ (sl.take cnt) D ∧ dN φ D ∧ dS D) ∧ (∀ i, i < cnt → (φ (sl.getD i 0)).1 ≤ last ∧ ∀ j, j < cnt → (φ (sl.getD j 0)).1 = (φ (sl.getD i 0)).1 → j = i) ∧ time < 65536 ∧
  (0 < taken → cl = false ∧ taken ≤ (if act then cnt - 1 else cnt) ∧ mI b sl ou D taken (φ, made, af, ar, src) ∧ af < taken ∧ ar < pk_cs φ sl af)
theorem pk_take {sl : List Nat} (hl : sl.length = 6) {cnt : Nat} (h6 : cnt ≤ 6) {f : Nat} : f ∈ sl.take cnt ↔ ∃ i, i < cnt ∧ f = sl.getD i 0 := by
  constructor
  · intro hf
    obtain ⟨i, hi, rfl⟩ := List.mem_iff_getElem.mp hf
    rw [List.length_take] at hi
    refine ⟨i, by omega, ?_⟩
    rw [List.getElem_take]
    unfold List.getD
    rw [List.getElem?_eq_getElem (by omega)]
    rfl
  · rintro ⟨i, hi, rfl⟩
    refine List.mem_iff_getElem.mpr ⟨i, by rw [List.length_take]; omega, ?_⟩
    rw [List.getElem_take]
    unfold List.getD
    rw [List.getElem?_eq_getElem (by omega)]
    rfl
section
variable {μ μ' : pw_Mem} {s : Option Nat} {b : Nat} {φ φ' : Nat → qf} {sl : List Nat} {cnt : Nat} {act : Bool} {last time : Nat} {cl : Bool} {D : List (Nat × Nat × Nat)} {ou fs : List Nat} {made taken af ar : Nat} {src : Nat → Nat → Nat × Nat} {M : qM}
theorem KR.Z (h : KR μ b φ sl cnt act last time cl D ou made taken af ar src) {f : Nat} (hf : isB b f) : mZ (φ f) := by
  have q := h.2.2.2.1 f hf
  exact ⟨qF_len q, qF_hlen q, q.2.2.2.2.2.2.2.1⟩
theorem KR.c6 (h : KR μ b φ sl cnt act last time cl D ou made taken af ar src) : cnt ≤ 6 ∧ (act = true → 0 < cnt) := ⟨h.2.1.2.2.2.2.2.1, h.2.1.2.2.2.2.2.2.1⟩
/-- where a file stands on the shelf -/
def pk_whr (sl : List Nat) (f : Nat) : Nat := ((List.range 6).find? (fun i => decide (sl.getD i 0 = f))).getD 0
theorem pk_whr_at (ap : pk_ap sl ou) {i : Nat} (hi : i < 6) : pk_whr sl (sl.getD i 0) = i := by
  unfold pk_whr
  cases h : (List.range 6).find? (fun j => decide (sl.getD j 0 = sl.getD i 0)) with
  | none =>
    have := List.find?_eq_none.mp h i (List.mem_range.mpr hi)
    exact absurd (decide_eq_true rfl) this
  | some j =>
    have h1 := List.find?_some h
    have h2 := List.mem_range.mp (List.mem_of_find?_eq_some h)
    exact ap.2.2.1 j i h2 hi (of_decide_eq_true h1)
/-- the entries are no more than the records -/
theorem dOK.count (ok : dOK φ (sl.take cnt) D) (hs : dS D) (ap : pk_ap sl ou) (h6 : cnt ≤ 6) (n : Nat) (hc : ∀ i j, i < cnt → j < (φ (sl.getD i 0)).2.2.2.2.length → 11 * i + j < n) (h11 : ∀ i, i < cnt → (φ (sl.getD i 0)).2.2.2.2.length ≤ 11) : D.length ≤ n := by
  have hcode : ∀ e ∈ D, ∃ i r, i < cnt ∧ e.2.1 = sl.getD i 0 ∧ pk_whr sl e.2.1 = i ∧ (φ (sl.getD i 0)).2.2.2.2[e.2.2]? = some r ∧ e.1 = pn_rank r.2.1 r.2.2.1 ∧ e.2.2 < (φ (sl.getD i 0)).2.2.2.2.length := fun e he => by
    obtain ⟨c1, r, c2, c3⟩ := ok e he
    obtain ⟨i, hi, e1⟩ := (pk_take ap.1 h6).mp c1
    rw [e1] at c2
    exact ⟨i, r, hi, e1, by rw [e1]; exact pk_whr_at ap (by omega), c2, c3, (List.getElem?_eq_some_iff.mp c2).1⟩
  have nd : (D.map (fun e => 11 * pk_whr sl e.2.1 + e.2.2)).Nodup := by
    unfold List.Nodup
    rw [List.pairwise_map]
    refine List.Pairwise.imp_of_mem (fun {a c} ha hc hlt heq => ?_) hs
    obtain ⟨i, r, i1, i2, i3, i4, i5, i6⟩ := hcode a ha
    obtain ⟨j, q, j1, j2, j3, j4, j5, j6⟩ := hcode c hc
    rw [i3, j3] at heq
    have l1 := h11 i i1
    have l2 := h11 j j1
    have hij : i = j := by omega
    subst hij
    have h22 : a.2.2 = c.2.2 := by omega
    rw [h22, j4] at i4
    cases i4
    omega
  have := List.Nodup.length_le_of_subset nd (l₂ := List.range n) (fun x hx => by
    obtain ⟨e, he, rfl⟩ := List.mem_map.mp hx
    obtain ⟨i, r, i1, i2, i3, i4, i5, i6⟩ := hcode e he
    rw [i3]
    exact List.mem_range.mpr (hc i _ i1 i6))
  rw [List.length_map, List.length_range] at this
  exact this
theorem KW.few (h : KW b φ sl cnt act last time false D ou made taken af ar src) (hR : KR μ b φ sl cnt act last time false D ou made taken af ar src) : (act = true → ∀ z, 9 ≤ z → (φ (sl.getD (cnt - 1) 0)).2.1.length + z ≤ 100 → (φ (sl.getD (cnt - 1) 0)).2.2.2.2.length < 11) ∧ ∀ z, 9 ≤ z → pk_fit φ sl cnt act z ∨ cnt < 6 → D.length < 66 := by
  obtain ⟨k1, k2, k3, k4, ⟨k5, k6, k7⟩, k8, k9, k10⟩ := h
  obtain ⟨c6, c0⟩ := hR.c6
  have hb := hR.bo.2.1
  have h11 : ∀ i, i < cnt → (φ (sl.getD i 0)).2.2.2.2.length ≤ 11 := fun i hi => (hR.Z (hb i (by omega))).2.2
  have few : act = true → ∀ z, 9 ≤ z → (φ (sl.getD (cnt - 1) 0)).2.1.length + z ≤ 100 → (φ (sl.getD (cnt - 1) 0)).2.2.2.2.length < 11 := fun ha z hz hl => by
    have h0 := c0 ha
    have := (k4 rfl (cnt - 1) (by omega)).len ((k1 _ (hb (cnt - 1) (by omega))).2.2.2.2)
    omega
  refine ⟨few, fun z hz hc => ?_⟩
  have := k5.count k7 k2 c6 65 (fun i j hi hj => ?_) h11
  · omega
  · have l1 := h11 i hi
    rcases hc with hc | hc
    · have h0 := c0 hc.1
      have hf := few hc.1 z hz hc.2
      by_cases ci : i = cnt - 1
      · rw [ci] at hj
        omega
      · omega
    · omega
theorem KW.bits (h : KW b φ sl cnt act last time cl D ou made taken af ar src) (hR : KR μ b φ sl cnt act last time cl D ou made taken af ar src) (hl : last < 100000) :
    pk_ap sl ou ∧ (0 < taken → made ≤ 6) ∧ (∀ i, i < 6 → mZ (φ (sl.getD i 0)) ∧ mZ (φ (ou.getD i 0))) ∧ pk_nums φ sl cnt ∧ (∀ e ∈ D, ∃ i, i < cnt ∧ e.2.1 = sl.getD i 0) := by
  obtain ⟨k1, k2, k3, k4, ⟨k5, k6, k7⟩, k8, k9, k10⟩ := h
  obtain ⟨c6, c0⟩ := hR.c6
  obtain ⟨b1, b2, b3, b4⟩ := hR.bo
  refine ⟨k2, fun ht => ?_, fun i hi => ⟨hR.Z (b2 i hi), hR.Z (b3 i hi)⟩, fun i hi => ⟨?_, (k8 i hi).2⟩, fun e he => (pk_take k2.1 c6).mp (k5 e he).1⟩
  · obtain ⟨-, t1, t2, -⟩ := k10 ht
    have h5 : made ≤ taken := t2.2.2.2.2.1
    split at t1 <;> omega
  · have := (k8 i hi).1
    omega
theorem KW.pre (h : KW b φ sl cnt act last time false D ou made taken af ar src) (hR : KR μ b φ sl cnt act last time false D ou made taken af ar src) (hl : last < 100000) : pk_pre b φ sl cnt act time D (sl.take cnt) ∧ pm_pre φ sl cnt act last time D ou made taken src := by
  obtain ⟨w1, w2⟩ := h.few hR
  obtain ⟨-, m6, hz, hnum, hDs⟩ := h.bits hR hl
  obtain ⟨k1, k2, k3, k4, ⟨k5, k6, k7⟩, k8, k9, k10⟩ := h
  obtain ⟨c6, c0⟩ := hR.c6
  obtain ⟨b1, b2, b3, b4⟩ := hR.bo
  refine ⟨⟨k1, fun f hf => b1 f (List.mem_of_mem_take hf), k5, w2, k9, fun hc hm => ?_, w1⟩, k2, c6, fun ha => ⟨c0 ha, k3 ha⟩, k9, by omega, fun i hi => ⟨(hz i hi).1, (hz i hi).2, (k1 _ (b2 i hi)).1⟩, w1, k7, w2, hDs, fun ht => ⟨m6 ht, fun o j ho hj => ?_⟩⟩
  · obtain ⟨i, hi, e⟩ := (pk_take k2.1 c6).mp hm
    have := k2.2.2.1 cnt i hc (by omega) e
    omega
  · obtain ⟨-, t1, t2, -⟩ := k10 ht
    obtain ⟨i, i1, i2, -⟩ := t2.2.2.2.2.2.2.2.1 o j ho hj
    refine ⟨i, ?_, i2⟩
    split at t1 <;> omega
/-- bytes may be others -/
theorem mI.like (h : mI b sl ou D taken (φ, made, af, ar, src)) (hV : ∀ f, isB b f → qV (φ' f)) (h2 : ∀ f, (φ' f).2.1.length = (φ f).2.1.length) (h3 : ∀ f, (φ' f).2.2.2.2 = (φ f).2.2.2.2) (h4 : ∀ o, o < made → (φ' (ou.getD o 0)).2.2.2.1 = (φ (ou.getD o 0)).2.2.2.1) : mI b sl ou D taken (φ', made, af, ar, src) := by
  obtain ⟨i1, i2, i3, i4, i5, i6, i7, i8, i9, i10⟩ := h
  dsimp only at i1 i2 i3 i4 i5 i6 i7 i8 i9 i10
  refine ⟨fun f hf => ⟨hV f hf, by dsimp only; rw [h2]; exact (i1 f hf).2⟩, fun i hi => ?_, fun o ho => ?_, i4, i5, i6, fun hc => ?_, fun o j ho hj => ?_, fun e he i hi hie hb => ?_, fun o j o' j' h5 h6 h7 h8 h9 => ?_⟩
  · dsimp only; rw [h2, h3]; exact i2 i hi
  · dsimp only; rw [h2, h3, h4 o ho]; exact i3 o ho
  · dsimp only; rw [h2, h3]; exact i7 hc
  · dsimp only at hj ⊢
    rw [h3] at hj
    obtain ⟨i, a1, a2, a3, r, r', a4, a5, a6⟩ := i8 o j ho hj
    exact ⟨i, a1, a2, a3, r, r', by rw [h3]; exact a4, by rw [h3]; exact a5, a6⟩
  · obtain ⟨o, j, a1, a2, a3⟩ := i9 e he i hi hie hb
    exact ⟨o, j, a1, by dsimp only; rw [h3]; exact a2, a3⟩
  · dsimp only at h6 h8
    rw [h3] at h6 h8
    exact i10 o j o' j' h5 h6 h7 h8 h9
theorem KW.like (h : KW b φ sl cnt act last time cl D ou made taken af ar src) (hV : ∀ f, isB b f → qV (φ' f)) (h1 : ∀ f, (φ' f).1 = (φ f).1) (h2 : ∀ f, (φ' f).2.1.length = (φ f).2.1.length) (h3 : ∀ f, (φ' f).2.2.2.2 = (φ f).2.2.2.2) (h4 : ∀ o, o < 6 → (φ' (ou.getD o 0)).2.2.2.1 = (φ (ou.getD o 0)).2.2.2.1) (hm : 0 < taken → made ≤ 6) : KW b φ' sl cnt act last time cl D ou made taken af ar src := by
  obtain ⟨k1, k2, k3, k4, ⟨k5, k6, k7⟩, k8, k9, k10⟩ := h
  refine ⟨hV, k2, fun ha => by rw [h1]; exact k3 ha, fun hc i hi => by rw [h2, h3]; exact k4 hc i hi, ⟨fun e he => ?_, fun e he r hr => k6 e he r (by rw [← h3]; exact hr), k7⟩, fun i hi => ⟨by rw [h1]; exact (k8 i hi).1, fun j hj hn => (k8 i hi).2 j hj (by rw [h1, h1] at hn; exact hn)⟩, k9, fun ht => ?_⟩
  · obtain ⟨c1, r, c2, c3⟩ := k5 e he
    exact ⟨c1, r, by rw [h3]; exact c2, c3⟩
  · obtain ⟨t1, t2, t3, t4, t5⟩ := k10 ht
    refine ⟨t1, t2, t3.like hV h2 h3 (fun o ho => h4 o (by have := hm ht; omega)), t4, ?_⟩
    unfold pk_cs
    rw [h3]
    exact t5
/-- the power is lost -/
theorem KW.lost (h : KW b φ sl cnt act last time cl D ou made taken af ar src) (m : Nat) : KW b (pu_lose φ sl cnt act m) sl cnt false last time true D ou made 0 af ar src := by
  obtain ⟨k1, k2, k3, k4, ⟨k5, k6, k7⟩, k8, k9, k10⟩ := h
  have e1 : ∀ f, (pu_lose φ sl cnt act m f).1 = (φ f).1 ∧ (pu_lose φ sl cnt act m f).2.2.2.2 = (φ f).2.2.2.2 := fun f => by
    unfold pu_lose
    split
    · by_cases c : f = sl.getD (cnt - 1) 0
      · rw [c, pu_at]
        exact ⟨rfl, rfl⟩
      · rw [pu_ne c]
        exact ⟨rfl, rfl⟩
    · exact ⟨rfl, rfl⟩
  refine ⟨fun f hf => ?_, k2, fun h => (by cases h), fun h => (by cases h), ⟨fun e he => ?_, fun e he r hr => k6 e he r (by rw [← (e1 _).2]; exact hr), k7⟩, fun i hi => ⟨by rw [(e1 _).1]; exact (k8 i hi).1, fun j hj hn => (k8 i hi).2 j hj (by rw [(e1 _).1, (e1 _).1] at hn; exact hn)⟩, k9, fun h => absurd h (Nat.lt_irrefl 0)⟩
  · unfold pu_lose
    split
    · by_cases c : f = sl.getD (cnt - 1) 0
      · rw [c, pu_at]
        rw [c] at hf
        obtain ⟨v1, v2, v3, v4, v5⟩ := k1 _ hf
        exact ⟨v1.sub (fun x hx => List.mem_of_mem_take hx), v2, v3, Nat.le_refl _, v5⟩
      · rw [pu_ne c]
        exact k1 f hf
    · exact k1 f hf
  · obtain ⟨c1, r, c2, c3⟩ := k5 e he
    exact ⟨c1, r, by rw [(e1 _).2]; exact c2, c3⟩
theorem KW.synced (h : KW b φ sl cnt act last time cl D ou made taken af ar src) (hm : 0 < taken → made ≤ 6) : KW b (pu_sync φ sl cnt act) sl cnt act last time cl D ou made taken af ar src := by
  have e1 : ∀ f, (pu_sync φ sl cnt act f).1 = (φ f).1 ∧ (pu_sync φ sl cnt act f).2.1 = (φ f).2.1 ∧ (pu_sync φ sl cnt act f).2.2.2 = (φ f).2.2.2 ∧ (qV (φ f) → qV (pu_sync φ sl cnt act f)) := fun f => by
    unfold pu_sync
    split
    · by_cases c : f = sl.getD (cnt - 1) 0
      · rw [c, pu_at]
        exact ⟨rfl, rfl, rfl, fun ⟨v1, v2, v3, v4, v5⟩ => ⟨v1, v2, v3, Nat.le_refl _, v5⟩⟩
      · rw [pu_ne c]
        exact ⟨rfl, rfl, rfl, id⟩
    · exact ⟨rfl, rfl, rfl, id⟩
  exact h.like (fun f hf => (e1 f).2.2.2 (h.1 f hf)) (fun f => (e1 f).1) (fun f => by rw [(e1 f).2.1]) (fun f => by rw [(e1 f).2.2.1]) (fun o _ => by rw [(e1 _).2.2.1]) hm
/-- the store is opened -/
theorem KW.opened (h : KW b φ sl cnt act last time cl D ou made taken af ar src) (hR : KR μ b φ sl cnt act last time cl D ou made taken af ar src) (hh : Bool) (d1 : dOK (φo (pu_sync φ sl cnt act) sl hh cnt) (sl.take cnt) (pd_op (pu_sync φ sl cnt act) sl hh cnt)) (d2 : dN (φo (pu_sync φ sl cnt act) sl hh cnt) (pd_op (pu_sync φ sl cnt act) sl hh cnt)) (d3 : dS (pd_op (pu_sync φ sl cnt act) sl hh cnt)) : KW b (φo (pu_sync φ sl cnt act) sl hh cnt) sl cnt false last time false (pd_op (pu_sync φ sl cnt act) sl hh cnt) ou made 0 af ar src := by
  have e1 : ∀ f, (pu_sync φ sl cnt act f).2.1 = (φ f).2.1 ∧ (qV (φ f) → qV (pu_sync φ sl cnt act f)) := fun f => by
    unfold pu_sync
    split
    · by_cases c : f = sl.getD (cnt - 1) 0
      · rw [c, pu_at]
        exact ⟨rfl, fun ⟨v1, v2, v3, v4, v5⟩ => ⟨v1, v2, v3, Nat.le_refl _, v5⟩⟩
      · rw [pu_ne c]
        exact ⟨rfl, id⟩
    · exact ⟨rfl, id⟩
  obtain ⟨k1, k2, k3, k4, ⟨k5, k6, k7⟩, k8, k9, k10⟩ := h
  obtain ⟨c6, c0⟩ := hR.c6
  obtain ⟨b1, b2, b3, b4⟩ := hR.bo
  obtain ⟨x1, x2⟩ := φo_at (φ := pu_sync φ sl cnt act) (h := hh) k2.2.2.1 cnt c6
  have num : ∀ f, (φo (pu_sync φ sl cnt act) sl hh cnt f).1 = (φ f).1 := fun f => by rw [φo_num, pu_sync_num]
  have lv : ∀ i, i < cnt → qV (φo (pu_sync φ sl cnt act) sl hh cnt (sl.getD i 0)) ∧ qCh 0 (φo (pu_sync φ sl cnt act) sl hh cnt (sl.getD i 0)).2.2.2.2 (φo (pu_sync φ sl cnt act) sl hh cnt (sl.getD i 0)).2.1.length := fun i hi => by
    rw [x2 i hi]
    obtain ⟨y1, y2, y3, y4⟩ := pt_learn_V ((e1 _).2 (k1 _ (b2 i (by omega)))) (by rw [(e1 _).1]; exact (hR.Z (b2 i (by omega))).1) hh
    exact ⟨y1, y3⟩
  refine ⟨fun f hf => ?_, k2, fun h => (by cases h), fun _ i hi => (lv i hi).2, ⟨d1, d2, d3⟩, fun i hi => ⟨by rw [num]; exact (k8 i hi).1, fun j hj hn => (k8 i hi).2 j hj (by rw [num, num] at hn; exact hn)⟩, k9, fun h => absurd h (Nat.lt_irrefl 0)⟩
  by_cases c : ∃ i, i < cnt ∧ f = sl.getD i 0
  · obtain ⟨i, hi, rfl⟩ := c
    exact (lv i hi).1
  · rw [x1 f (fun o ho hc => c ⟨o, ho, hc⟩)]
    exact (e1 f).2 (k1 f hf)
end
