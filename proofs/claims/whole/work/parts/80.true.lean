/-! WHAT IS LEFT: on every script both classes answer alike (pure Lean: no machine) -/
theorem law_true {ρ : Nat → Nat} (hρ : rhoOk ρ) (xs : Nat → Int32) {L : Nat} (hL : L ≤ 384) (n0 : Nat) : ∃ res : HSt, f_L_law ρ xs L (fun _ => none, n0) = some res := by
  sorry
