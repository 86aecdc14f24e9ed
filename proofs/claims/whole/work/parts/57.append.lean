/-! ===== a file appends a record ===== -/
theorem pw_abs_app {o : Nat} : ∀ (l1 l2 : List Int32) (μ : pw_Mem) (n : Nat), pw_abs (pw_abs μ o n l1) o (n + l1.length) l2 = pw_abs μ o n (l1 ++ l2)
  | [], l2, μ, n => rfl
  | x :: t, l2, μ, n => by
    show pw_abs (pw_abs (pw_ab μ o n x) o (n + 1) t) o (n + (t.length + 1)) l2 = pw_abs (pw_ab μ o n x) o (n + 1) (t ++ l2)
    rw [show n + (t.length + 1) = n + 1 + t.length by omega]
    exact pw_abs_app t l2 (pw_ab μ o n x) (n + 1)
/-- the bytes of a record before its sum is set -/
def pw_rb (time : Int32) (k : Nat) (key : Int64) (v : Nat) (value : Int64) : List Int32 := pw_nb 0 4 ++ (pw_nb time.toInt64 2 ++ ([nI k] ++ ([nI v] ++ (pw_nb key k ++ pw_nb value (if v = 255 then 0 else v)))))
theorem pw_rb_len (time : Int32) (k : Nat) (key : Int64) (v : Nat) (value : Int64) : (pw_rb time k key v value).length = pn_len k v := by
  unfold pw_rb pn_len
  simp only [List.length_append, pw_nb_len, List.length_singleton]
  omega
