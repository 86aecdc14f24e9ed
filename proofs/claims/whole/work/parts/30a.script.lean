/-! ===== the script: an array that lies below the base ===== -/
def aj_sc (Γ : aj_G) (z n : Nat) (sc : Nat → Int32) : Prop := va_X z n sc (gs Γ) (gs Γ).heap ∧ z < (gs Γ).heap.size ∧ ¬ gB Γ ≤ z
def aw_scr (n : Nat) (sc : Nat → Int32) (i : Int32) : Option Int32 := (aw_ix i n).map sc
section
variable {Γ : aj_G} {ym : MethodName} {cc : ByteArray} {nL : Nat} {ret : Option FieldType} {rm : Room} {k : Nat × Nat} {pc : Nat} {lv : List (Nat × aV)} {st : List aV} {w : aw_W} {z n : Nat} {sc : Nat → Int32}
theorem j_scld {i x : Int32} (G : aj_ok Γ ym cc nL ret rm) (S : aj_sc Γ z n sc) (d : decode cc pc = .ok (.iaload, 1)) (e : aw_scr n sc i = some x) (h : aj_J Γ nL k (pc + 1) lv (aI x :: st) w) : aj_J Γ nL k pc lv (aI i :: aRf (some z) :: st) w := by
  intro ls H locs h1 h2 h3 h4
  obtain ⟨j, hj, rfl⟩ := Option.map_eq_some_iff.mp e
  obtain ⟨hin, rfl⟩ := aw_ix_some hj
  exact va_sld G.1 G.2.1 S.1 S.2.1 S.2.2 h4 hin d (h ls H locs h1 h2 h3 h4)
theorem j_sclen (G : aj_ok Γ ym cc nL ret rm) (S : aj_sc Γ z n sc) (d : decode cc pc = .ok (.arraylength, 1)) (h : aj_J Γ nL k (pc + 1) lv (aI (Int32.ofNat n) :: st) w) : aj_J Γ nL k pc lv (aRf (some z) :: st) w :=
  fun ls H locs h1 h2 h3 h4 => va_slen G.1 G.2.1 S.1 S.2.1 S.2.2 h4 d (h ls H locs h1 h2 h3 h4)
end
