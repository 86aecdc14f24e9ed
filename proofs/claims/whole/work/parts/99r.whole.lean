/-! ===== what holds between calls: an append ===== -/
section
variable {μ μ' : pw_Mem} {s : Option Nat} {b : Nat} {φ φ' : Nat → qf} {sl : List Nat} {cnt : Nat} {act : Bool} {last time : Nat} {cl : Bool} {D D' : List (Nat × Nat × Nat)} {ou fs : List Nat} {made taken af ar : Nat} {src : Nat → Nat → Nat × Nat} {M : qM}
theorem mI.off (h : mI b sl ou D taken (φ, made, af, ar, src)) (haf : af < taken) (hV : ∀ f, isB b f → qV (φ' f) ∧ (φ' f).2.1.length ≤ 100) (hs : ∀ i, i < taken → (φ' (sl.getD i 0)).2.1.length = (φ (sl.getD i 0)).2.1.length ∧ (φ' (sl.getD i 0)).2.2.2.2 = (φ (sl.getD i 0)).2.2.2.2) (ho : ∀ o, o < made → φ' (ou.getD o 0) = φ (ou.getD o 0)) (hD : ∀ e ∈ D', ∀ i, i < taken → e.2.1 = sl.getD i 0 → e ∈ D) : mI b sl ou D' taken (φ', made, af, ar, src) := by
  obtain ⟨i1, i2, i3, i4, i5, i6, i7, i8, i9, i10⟩ := h
  dsimp only at i1 i2 i3 i4 i5 i6 i7 i8 i9 i10
  refine ⟨hV, fun i hi => ?_, fun o hoo => ?_, i4, i5, i6, fun hc => ?_, fun o j hoo hj => ?_, fun e he i hi hie hb => ?_, fun o j o' j' h5 h6 h7 h8 h9 => ?_⟩
  · dsimp only; rw [(hs i hi).1, (hs i hi).2]; exact i2 i hi
  · dsimp only; rw [ho o hoo]; exact i3 o hoo
  · dsimp only at hc ⊢
    rw [ho _ (by omega), (hs af haf).2]
    exact i7 hc
  · dsimp only at hj hoo ⊢
    rw [ho o hoo] at hj ⊢
    obtain ⟨i, a1, a2, a3, r, r', a4, a5, a6⟩ := i8 o j hoo hj
    exact ⟨i, a1, a2, a3, r, r', by rw [(hs i a1).2]; exact a4, a5, a6⟩
  · obtain ⟨o, j, a1, a2, a3⟩ := i9 e (hD e he i hi hie) i hi hie hb
    exact ⟨o, j, a1, by dsimp only; rw [ho o a1]; exact a2, a3⟩
  · dsimp only at h5 h6 h7 h8
    rw [ho o h5] at h6
    rw [ho o' h7] at h8
    exact i10 o j o' j' h5 h6 h7 h8 h9
theorem pt_app_V {t : qf} {k x v : Nat} {value : Int64} (h : qV t) (h1 : 1 ≤ k) (h4 : k ≤ 4) (hx : x < 2 ^ (8 * k)) (hv : v ≤ 8 ∨ v = 255) (hl : t.2.1.length + pn_len k v ≤ 100) : qV (pt_app t time k x v value) ∧ (pt_app t time k x v value).2.1.length = t.2.1.length + pn_len k v := by
  obtain ⟨v1, v2, v3, v4, v5⟩ := h
  have e : (pt_app t time k x v value).2.1.length = t.2.1.length + pn_len k v := by
    show (t.2.1 ++ pn_rec time k (lN x) v value).length = _
    rw [List.length_append, pn_rec_len]
  refine ⟨⟨v1.app (pn_rec_qB (by omega) (by omega)), v2, v3, by rw [e]; show t.2.2.1 ≤ _; omega, fun r hr => ?_⟩, e⟩
  rcases List.mem_append.mp hr with hr | hr
  · exact v5 r hr
  · rw [List.mem_singleton.mp hr]
    exact ⟨h1, h4, hx, hv, hl⟩
theorem KW.rolled (h : KW b φ sl cnt act last time false D ou made taken af ar src) (hz : ∀ f, isB b f → (φ f).2.1.length ≤ 100) (hm : 0 < taken → made ≤ 6) (hc : cnt < 6) : KW b (pu_new φ sl cnt act last) sl (cnt + 1) true (last + 1) time false D ou made taken af ar src := by
  have e1 : ∀ f, (pu_sync φ sl cnt act f).1 = (φ f).1 ∧ (pu_sync φ sl cnt act f).2.1 = (φ f).2.1 ∧ (pu_sync φ sl cnt act f).2.2.2 = (φ f).2.2.2 ∧ (qV (φ f) → qV (pu_sync φ sl cnt act f)) := fun f => by
    unfold pu_sync
    split
    · by_cases c : f = sl.getD (cnt - 1) 0
      · rw [c, pu_at]
        exact ⟨rfl, rfl, rfl, fun ⟨v1, v2, v3, v4, v5⟩ => ⟨v1, v2, v3, Nat.le_refl _, v5⟩⟩
      · rw [pu_ne c]
        exact ⟨rfl, rfl, rfl, id⟩
    · exact ⟨rfl, rfl, rfl, id⟩
  obtain ⟨k1, k2, k3, k4, ⟨k5, k6, k7⟩, k8, k9, k10⟩ := h
  have at0 : pu_new φ sl cnt act last (sl.getD cnt 0) = (last + 1, [], 0, [], []) := pu_at
  have at1 : ∀ f, f ≠ sl.getD cnt 0 → pu_new φ sl cnt act last f = pu_sync φ sl cnt act f := fun f hf => pu_ne hf
  have ne1 : ∀ i, i < cnt → sl.getD i 0 ≠ sl.getD cnt 0 := fun i hi hx => by have := k2.2.2.1 i cnt (by omega) hc hx; omega
  have like : ∀ f, f ≠ sl.getD cnt 0 → (pu_new φ sl cnt act last f).1 = (φ f).1 ∧ (pu_new φ sl cnt act last f).2.1 = (φ f).2.1 ∧ (pu_new φ sl cnt act last f).2.2.2 = (φ f).2.2.2 := fun f hf => by
    rw [at1 f hf]
    exact ⟨(e1 f).1, (e1 f).2.1, (e1 f).2.2.1⟩
  have hV : ∀ f, isB b f → qV (pu_new φ sl cnt act last f) ∧ (pu_new φ sl cnt act last f).2.1.length ≤ 100 := fun f hf => by
    by_cases c : f = sl.getD cnt 0
    · rw [c, at0]
      exact ⟨⟨fun x hx => (by cases hx), fun x hx => (by cases hx), Or.inl rfl, Nat.le_refl _, fun r hr => (by cases hr)⟩, Nat.zero_le _⟩
    · refine ⟨by rw [at1 f c]; exact (e1 f).2.2.2 (k1 f hf), by rw [(like f c).2.1]; exact hz f hf⟩
  have hDf : ∀ e ∈ D, e.2.1 ≠ sl.getD cnt 0 := fun e he => by
    obtain ⟨i, hi, e0⟩ := (pk_take k2.1 (by omega)).mp (k5 e he).1
    rw [e0]
    exact ne1 i hi
  refine ⟨fun f hf => (hV f hf).1, k2, fun _ => ?_, fun _ i hi => ?_, ⟨fun e he => ?_, fun e he r hr => ?_, k7⟩, fun i hi => ?_, k9, fun ht => ?_⟩
  · rw [Nat.add_sub_cancel, at0]
  · by_cases c : i = cnt
    · rw [c, at0]
      rfl
    · obtain ⟨l1, l2, l3⟩ := like _ (ne1 i (by omega))
      rw [l2, l3]
      exact k4 rfl i (by omega)
  · obtain ⟨c1, r, c2, c3⟩ := k5 e he
    refine ⟨?_, r, by rw [(like _ (hDf e he)).2.2]; exact c2, c3⟩
    obtain ⟨i, hi, e0⟩ := (pk_take k2.1 (by omega)).mp c1
    exact (pk_take k2.1 (by omega)).mpr ⟨i, by omega, e0⟩
  · rw [(like _ (hDf e he)).2.2] at hr
    exact k6 e he r hr
  · by_cases c : i = cnt
    · rw [c, at0]
      refine ⟨Nat.le_refl _, fun j hj hn => ?_⟩
      by_cases cj : j = cnt
      · exact cj
      · rw [(like _ (ne1 j (by omega))).1] at hn
        have := (k8 j (by omega)).1
        dsimp only at hn
        omega
    · have ki := k8 i (by omega)
      rw [(like _ (ne1 i (by omega))).1]
      refine ⟨by omega, fun j hj hn => ?_⟩
      by_cases cj : j = cnt
      · rw [cj, at0] at hn
        dsimp only at hn
        omega
      · rw [(like _ (ne1 j (by omega))).1] at hn
        exact ki.2 j (by omega) hn
  · obtain ⟨t1, t2, t3, t4, t5⟩ := k10 ht
    have t2' : taken ≤ cnt := by split at t2 <;> omega
    refine ⟨rfl, by rw [if_pos rfl]; omega, t3.off t4 hV (fun i hi => ?_) (fun o ho => ?_) (fun e he _ _ _ => he), t4, ?_⟩
    · obtain ⟨l1, l2, l3⟩ := like _ (ne1 i (by omega))
      rw [l2, l3]
      exact ⟨rfl, rfl⟩
    · have := hm ht
      rw [at1 _ (fun hx => k2.2.2.2.2 cnt o hc (by omega) hx.symm)]
      exact pu_sync_ne (fun hx => k2.2.2.2.2 (cnt - 1) o (by omega) (by omega) hx.symm)
    · unfold pk_cs
      rw [(like _ (ne1 af (by omega))).2.2]
      exact t5
theorem KW.app1 (h : KW b φ sl cnt true last time false D ou made taken af ar src) (hz : ∀ f, isB b f → (φ f).2.1.length ≤ 100) (hbs : ∀ i, i < 6 → isB b (sl.getD i 0)) (h6 : cnt ≤ 6) (h0 : 0 < cnt) (hm : 0 < taken → made ≤ 6) {k x v : Nat} (h1 : 1 ≤ k) (h4 : k ≤ 4) (hx : x < 2 ^ (8 * k)) (hv : v ≤ 8 ∨ v = 255) (value : Int64) (hfit : (φ (sl.getD (cnt - 1) 0)).2.1.length + pn_len k v ≤ 100) {tomb : Bool} (htb : tomb = false → v ≠ 255) :
    KW b (pu φ (sl.getD (cnt - 1) 0) (pt_app (φ (sl.getD (cnt - 1) 0)) time k x v value)) sl cnt true last ((time + 1) % 65536) false (pe_en (pn_rank k x) (sl.getD (cnt - 1) 0, (φ (sl.getD (cnt - 1) 0)).2.2.2.2.length) tomb D) ou made taken af ar src := by
  obtain ⟨k1, k2, k3, k4, ⟨k5, k6, k7⟩, k8, k9, k10⟩ := h
  have hB := hbs (cnt - 1) (by omega)
  obtain ⟨vV, vL⟩ := pt_app_V (time := time) (value := value) (k1 _ hB) h1 h4 hx hv hfit
  have ne1 : ∀ i, i < 6 → i ≠ cnt - 1 → sl.getD i 0 ≠ sl.getD (cnt - 1) 0 := fun i hi hne hx => hne (k2.2.2.1 i (cnt - 1) hi (by omega) hx)
  generalize hf : sl.getD (cnt - 1) 0 = f at *
  have hrs : (pt_app (φ f) time k x v value).2.2.2.2 = (φ f).2.2.2.2 ++ [((φ f).2.1.length, k, x, v)] := rfl
  have hV : ∀ g, isB b g → qV (pu φ f (pt_app (φ f) time k x v value) g) ∧ (pu φ f (pt_app (φ f) time k x v value) g).2.1.length ≤ 100 := fun g hg => by
    by_cases c : g = f
    · rw [c, pu_at]
      exact ⟨vV, by rw [vL]; exact hfit⟩
    · rw [pu_ne c]
      exact ⟨k1 g hg, hz g hg⟩
  have num : ∀ g, (pu φ f (pt_app (φ f) time k x v value) g).1 = (φ g).1 := fun g => by
    by_cases c : g = f
    · rw [c, pu_at]; rfl
    · rw [pu_ne c]
  have rsk : ∀ (g i : Nat) (r : qr), (φ g).2.2.2.2[i]? = some r → (pu φ f (pt_app (φ f) time k x v value) g).2.2.2.2[i]? = some r := fun g i r hr => by
    by_cases c : g = f
    · rw [c] at hr
      rw [c, pu_at, hrs, List.getElem?_append_left (List.getElem?_eq_some_iff.mp hr).1]
      exact hr
    · rw [pu_ne c]
      exact hr
  have ok1 : dOK (pu φ f (pt_app (φ f) time k x v value)) (sl.take cnt) D := fun e he => by
    obtain ⟨c1, r, c2, c3⟩ := k5 e he
    exact ⟨c1, r, rsk _ _ _ c2, c3⟩
  have dn1 : dN (pu φ f (pt_app (φ f) time k x v value)) D := fun e he r hr => by
    obtain ⟨c1, r', c2, c3⟩ := k5 e he
    rw [rsk _ _ _ c2] at hr
    cases hr
    exact k6 e he _ c2
  have hnew : (pu φ f (pt_app (φ f) time k x v value) f).2.2.2.2[(φ f).2.2.2.2.length]? = some ((φ f).2.1.length, k, x, v) := by
    rw [pu_at, hrs, List.getElem?_append_right (Nat.le_refl _), Nat.sub_self]
    rfl
  have hmem : f ∈ sl.take cnt := (pk_take k2.1 h6).mpr ⟨cnt - 1, by omega, hf.symm⟩
  refine ⟨fun g hg => (hV g hg).1, k2, fun _ => by rw [hf, num]; exact k3 rfl, fun _ i hi => ?_, ⟨ok1.en k7 hmem hnew tomb, dn1.en k7 (fun ht r hr => ?_), k7.en⟩, fun i hi => ⟨by rw [num]; exact (k8 i hi).1, fun j hj hn => (k8 i hi).2 j hj (by rw [num, num] at hn; exact hn)⟩, Nat.mod_lt _ (by decide), fun ht => ?_⟩
  · by_cases c : i = cnt - 1
    · rw [c, hf, pu_at, hrs, vL]
      have := k4 rfl (cnt - 1) (by omega)
      rw [hf] at this
      exact this.snoc ((φ f).2.1.length, k, x, v) rfl
    · rw [pu_ne (ne1 i (by omega) c)]
      exact k4 rfl i hi
  · rw [hnew] at hr
    cases hr
    exact htb ht
  · obtain ⟨t1, t2, t3, t4, t5⟩ := k10 ht
    rw [if_pos rfl] at t2
    refine ⟨rfl, by rw [if_pos rfl]; exact t2, t3.off t4 hV (fun i hi => ?_) (fun o ho => ?_) (fun e he i hi hie => ?_), t4, ?_⟩
    · rw [pu_ne (ne1 i (by omega) (by omega))]
      exact ⟨rfl, rfl⟩
    · have := hm ht
      exact pu_ne (fun hx => k2.2.2.2.2 (cnt - 1) o (by omega) (by omega) (by rw [hf]; exact hx.symm))
    · rcases (pe_en_mem k7).mp he with ⟨h1, -⟩ | ⟨-, h2⟩
      · exact h1
      · rw [h2] at hie
        exact absurd hie.symm (ne1 i (by omega) (by omega))
    · unfold pk_cs
      rw [pu_ne (ne1 af (by omega) (by omega))]
      exact t5
theorem KW.app (h : KW b φ sl cnt act last time false D ou made taken af ar src) (hR : KR μ b φ sl cnt act last time false D ou made taken af ar src) (hl : last < 100000) {k x v : Nat} (h1 : 1 ≤ k) (h4 : k ≤ 4) (hx : x < 2 ^ (8 * k)) (hv : v ≤ 8 ∨ v = 255) (value : Int64) (hcase : pk_fit φ sl cnt act (pn_len k v) ∨ cnt < 6) {tomb : Bool} (htb : tomb = false → v ≠ 255) :
    KW b (pu (pk_tgt φ sl cnt act last (pn_len k v)).2.1 (pk_tgt φ sl cnt act last (pn_len k v)).1 (pt_app ((pk_tgt φ sl cnt act last (pn_len k v)).2.1 (pk_tgt φ sl cnt act last (pn_len k v)).1) time k x v value)) sl (pk_tgt φ sl cnt act last (pn_len k v)).2.2.1 true (pk_tgt φ sl cnt act last (pn_len k v)).2.2.2 ((time + 1) % 65536) false (pe_en (pn_rank k x) ((pk_tgt φ sl cnt act last (pn_len k v)).1, ((pk_tgt φ sl cnt act last (pn_len k v)).2.1 (pk_tgt φ sl cnt act last (pn_len k v)).1).2.2.2.2.length) tomb D) ou made taken af ar src ∧ (pk_tgt φ sl cnt act last (pn_len k v)).2.2.2 ≤ last + 1 := by
  obtain ⟨c6, c0⟩ := hR.c6
  obtain ⟨b1, b2, b3, b4⟩ := hR.bo
  have hm := (h.bits hR hl).2.1
  have hz : ∀ f, isB b f → (φ f).2.1.length ≤ 100 := fun f hf => (hR.Z hf).1
  by_cases hfit : pk_fit φ sl cnt act (pn_len k v)
  · rw [pk_tgt_fit hfit]
    have ha := hfit.1
    subst ha
    exact ⟨h.app1 hz b2 c6 (c0 rfl) hm h1 h4 hx hv value hfit.2 htb, Nat.le_succ _⟩
  · have hc : cnt < 6 := hcase.elim (fun h => absurd h hfit) id
    rw [pk_tgt_new hfit]
    have hlen := pn_len_le h4 hv
    have h' := h.rolled hz hm hc
    have hz' : ∀ f, isB b f → (pu_new φ sl cnt act last f).2.1.length ≤ 100 := fun f hf => by
      unfold pu_new
      by_cases c : f = sl.getD cnt 0
      · rw [c, pu_at]
        exact Nat.zero_le _
      · rw [pu_ne c]
        unfold pu_sync
        split
        · by_cases c2 : f = sl.getD (cnt - 1) 0
          · rw [c2, pu_at]
            rw [c2] at hf
            exact hz _ hf
          · rw [pu_ne c2]
            exact hz _ hf
        · exact hz _ hf
    have := h'.app1 hz' b2 (by omega) (Nat.succ_pos _) hm h1 h4 hx hv value (by
      rw [Nat.add_sub_cancel]
      unfold pu_new
      rw [pu_at]
      show 0 + _ ≤ 100
      omega) htb
    rw [Nat.add_sub_cancel] at this
    exact ⟨this, Nat.le_refl _⟩
/-- a byte is spoilt -/
theorem KW.spoilt (h : KW b φ sl cnt act last time cl D ou made taken af ar src) (hR : KR μ b φ sl cnt act last time cl D ou made taken af ar src) (hl : last < 100000) {i : Nat} (hi : i < cnt) (hint : Bool) (j : Nat) (bits : Int32) : KW b (pu φ (sl.getD i 0) (pt_spoil (φ (sl.getD i 0)) hint j bits)) sl cnt act last time cl D ou made taken af ar src := by
  obtain ⟨c6, c0⟩ := hR.c6
  obtain ⟨b1, b2, b3, b4⟩ := hR.bo
  have hm := (h.bits hR hl).2.1
  have key : ∀ t : qf, (pt_spoil t hint j bits).1 = t.1 ∧ (pt_spoil t hint j bits).2.1.length = t.2.1.length ∧ (pt_spoil t hint j bits).2.2.2.2 = t.2.2.2.2 ∧ (qV t → qV (pt_spoil t hint j bits)) := fun t => by
    unfold pt_spoil
    have hset : ∀ {B : List Nat}, qB B → qB (B.set j (pn_xb (B.getD j 0) bits)) := fun {B} hB x hx => by
      rcases List.mem_or_eq_of_mem_set hx with hx | rfl
      · exact hB x hx
      · exact pn_xb_lt (hB.getD j) bits
    cases hint with
    | true =>
      rw [if_pos rfl]
      refine ⟨rfl, rfl, rfl, fun ⟨v1, v2, v3, v4, v5⟩ => ⟨v1, hset v2, ?_, v4, v5⟩⟩
      rcases v3 with v3 | v3
      · left
        show t.2.2.2.1.set j _ = []
        rw [v3]
        rfl
      · right
        show 4 ≤ (t.2.2.2.1.set j _).length
        rw [List.length_set]
        exact v3
    | false =>
      rw [if_neg (by decide)]
      refine ⟨rfl, List.length_set, rfl, fun ⟨v1, v2, v3, v4, v5⟩ => ⟨hset v1, v2, v3, ?_, v5⟩⟩
      show t.2.2.1 ≤ (t.2.1.set j _).length
      rw [List.length_set]
      exact v4
  have put : ∀ g, (pu φ (sl.getD i 0) (pt_spoil (φ (sl.getD i 0)) hint j bits) g).1 = (φ g).1 ∧ (pu φ (sl.getD i 0) (pt_spoil (φ (sl.getD i 0)) hint j bits) g).2.1.length = (φ g).2.1.length ∧ (pu φ (sl.getD i 0) (pt_spoil (φ (sl.getD i 0)) hint j bits) g).2.2.2.2 = (φ g).2.2.2.2 ∧ (qV (φ g) → qV (pu φ (sl.getD i 0) (pt_spoil (φ (sl.getD i 0)) hint j bits) g)) := fun g => by
    by_cases c : g = sl.getD i 0
    · rw [c, pu_at]
      exact key _
    · rw [pu_ne c]
      exact ⟨rfl, rfl, rfl, id⟩
  exact h.like (fun f hf => (put f).2.2.2 (h.1 f hf)) (fun f => (put f).1) (fun f => (put f).2.1) (fun f => (put f).2.2.1) (fun o ho => by rw [pu_ne (fun hx => h.2.1.2.2.2.2 i o (by omega) ho hx.symm)]) hm
end
