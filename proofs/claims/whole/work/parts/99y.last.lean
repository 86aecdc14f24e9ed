/-! ===== what is owed ===== -/
theorem i_vc : Claimed_1_1 ∧ Claimed_1_2 := claim_of (fun base z n sc hn => pw_thm base z n sc hn)
