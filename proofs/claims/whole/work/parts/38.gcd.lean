/-! EUCLID in at most 100 steps, on both sides -/
def fibN : Nat → Nat
  | 0 => 0
  | 1 => 1
  | n + 2 => fibN n + fibN (n + 1)
theorem euc (W : Nat → Nat → Nat → Prop) (h0 : ∀ n x, W n x 0) (h1 : ∀ n x y, 0 < y → x < 2 ^ 63 → y < 2 ^ 63 → W n y (x % y) → W (n + 1) x y) : ∀ n, (∀ x y, x < 2 ^ 63 → y < 2 ^ 63 → y < fibN (n + 1) → W n x y) ∧ (∀ x y, x < 2 ^ 63 → y < 2 ^ 63 → y < fibN (n + 2) → W (n + 1) x y) := by
  intro n
  induction n with
  | zero =>
    refine ⟨fun x y _ _ h => ?_, fun x y _ _ h => ?_⟩
    · have : y = 0 := by
        have h : y < 1 := h
        omega
      subst this
      exact h0 _ _
    · have : y = 0 := by
        have h : y < 1 := h
        omega
      subst this
      exact h0 _ _
  | succ n ih =>
    refine ⟨ih.2, fun x y hx hy h => ?_⟩
    rcases Nat.eq_zero_or_pos y with rfl | hp
    · exact h0 _ _
    have hr := Nat.mod_lt x hp
    refine h1 (n + 1) x y hp hx hy ?_
    have e : fibN (n + 1 + 2) = fibN (n + 1) + fibN (n + 2) := rfl
    by_cases hc : x % y < fibN (n + 2)
    · exact ih.2 y (x % y) hy (by omega) hc
    · rcases Nat.eq_zero_or_pos (x % y) with h2 | h2
      · rw [h2]; exact h0 _ _
      refine h1 n y (x % y) h2 hy (by omega) ?_
      refine ih.1 (x % y) (y % (x % y)) (by omega) (by have := Nat.mod_lt y h2; omega) ?_
      have h3 : y % (x % y) ≤ y - x % y := by
        rw [Nat.mod_eq_sub_mod (by omega)]
        exact Nat.mod_le _ _
      omega
theorem fib_101 : 2 ^ 63 ≤ fibN 100 + fibN 99 := by decide +kernel
theorem euc100 (W : Nat → Nat → Nat → Prop) (h0 : ∀ n x, W n x 0) (h1 : ∀ n x y, 0 < y → x < 2 ^ 63 → y < 2 ^ 63 → W n y (x % y) → W (n + 1) x y) {x y : Nat} (hx : x < 2 ^ 63) (hy : y < 2 ^ 63) : W 100 x y :=
  (euc W h0 h1 100).1 x y hx hy (by have h := fib_101; have e : fibN 101 = fibN 99 + fibN 100 := rfl; show y < fibN 101; omega)
theorem lN_0 : lN 0 = 0 := rfl
theorem lcmp0 {y : Nat} (hy : y < 2 ^ 63) : (lg_cmp (lN y) 0 = 0) ↔ y = 0 := by
  rw [lg_cmp_eq]
  exact pk_lEQ (b := 0) hy (by omega)
theorem X12_divisor {B : HSt} {x y : Nat} (hx : x < 2 ^ 63) (hy : y < 2 ^ 63) : f_X12_divisor B (lN x) (lN y) = some (lN (Nat.gcd x y), B) := by
  unfold f_X12_divisor
  refine euc100 (fun n x y => ∀ f, n < f → f_X12_divisor_L6 f_X12_divisor_K31 f (lN x) (lN y) B = some (lN (Nat.gcd x y), B)) ?_ ?_ hx hy FU (by show 100 < 100000; omega)
  · intro n x f hf
    obtain ⟨f, rfl⟩ : ∃ g, f = g + 1 := ⟨f - 1, by omega⟩
    show f_X12_divisor_B6 _ _ _ _ _ = _
    unfold f_X12_divisor_B6
    rw [if_pos ((lcmp0 (by omega)).mpr rfl), Nat.gcd_zero_right]
    rfl
  · intro n x y h0 hx hy ih f hf
    obtain ⟨f, rfl⟩ : ∃ g, f = g + 1 := ⟨f - 1, by omega⟩
    show f_X12_divisor_B6 _ _ _ _ _ = _
    unfold f_X12_divisor_B6
    rw [if_neg (fun q => by have := (lcmp0 hy).mp q; omega), if_pos (fun q => by have := (pk_lEQ (b := 0) hy (by omega)).mp q; omega), pk_lRem hx h0 hy, ih f (by omega), Nat.gcd_comm x y, Nat.gcd_rec y x, Nat.gcd_comm]
theorem X12_lowest {B : HSt} {x y : Nat} (hx : x < 2 ^ 63) (hy : y < 2 ^ 63) (h0 : 0 < y) (part : Int32) : f_X12_lowest B (lN x) (lN y) part = some (lN ((if part = 0 then x else y) / Nat.gcd x y), B) := by
  have hg : 0 < Nat.gcd x y := Nat.gcd_pos_of_pos_right x h0
  have hg2 : Nat.gcd x y ≤ y := Nat.gcd_le_right x h0
  unfold f_X12_lowest
  rw [X12_divisor hx hy, bd2_some, bd2_some, if_pos (fun q => by have := (pk_lEQ (b := 0) (show Nat.gcd x y < 2 ^ 63 by omega) (by omega)).mp q; omega), if_pos (fun q => by have := (pk_lEQ (b := 0) (show Nat.gcd x y < 2 ^ 63 by omega) (by omega)).mp q; omega), pk_lDiv hx hg (by omega), pk_lDiv hy hg (by omega)]
  by_cases h : part = 0
  · rw [if_pos h, if_pos h]
  · rw [if_neg h, if_neg h]
theorem X11_greatestDivisor {B : HSt} {x y : Nat} (hx : x < 2 ^ 63) (hy : y < 2 ^ 63) : f_X11_greatestDivisor B (lN x) (lN y) = some (lN (Nat.gcd x y), B) := by
  unfold f_X11_greatestDivisor
  have e : (0 : Int32) = nI (100 - 100) := rfl
  rw [e]
  refine euc100 (fun n x y => n ≤ 100 → ∀ f, n < f → f_X11_greatestDivisor_L9 f_X11_greatestDivisor_K44 f (lN x) (lN y) (nI (100 - n)) B = some (lN (Nat.gcd x y), B)) ?_ ?_ hx hy (Nat.le_refl _) FU (by show 100 < 100000; omega)
  · intro n x hn f hf
    obtain ⟨f, rfl⟩ : ∃ g, f = g + 1 := ⟨f - 1, by omega⟩
    show f_X11_greatestDivisor_B9 _ _ _ _ _ _ = _
    unfold f_X11_greatestDivisor_B9
    rw [if_pos ((lcmp0 (by omega)).mpr rfl), Nat.gcd_zero_right]
    split <;> rfl
  · intro n x y h0 hx hy ih hn f hf
    obtain ⟨f, rfl⟩ : ∃ g, f = g + 1 := ⟨f - 1, by omega⟩
    show f_X11_greatestDivisor_B9 _ _ _ _ _ _ = _
    unfold f_X11_greatestDivisor_B9
    rw [if_neg (show ¬ (100 : Int32) ≤ nI (100 - (n + 1)) from nI_ge (a := 100 - (n + 1)) (b := 100) (by omega) (by omega)), if_neg (fun q => by have := (lcmp0 hy).mp q; omega), if_pos (fun q => by have := (pk_lEQ (b := 0) hy (by omega)).mp q; omega), pk_lRem hx h0 hy, nI_1, show 100 - (n + 1) + 1 = 100 - n by omega, ih (by omega) f (by omega), Nat.gcd_comm x y, Nat.gcd_rec y x, Nat.gcd_comm]
theorem X11_isOneOfTwo (B : HSt) (x : Int32) : f_X11_isOneOfTwo B x = some (bI (isN x 2), B) := by
  unfold f_X11_isOneOfTwo isN
  by_cases h0 : x = 0
  · subst h0; rfl
  by_cases h1 : x = 1
  · subst h1; rfl
  have : ¬ (0 ≤ x ∧ x < nI 2) := fun q => by
    obtain ⟨j, hj, rfl⟩ := I_of (x := x) (n := 2) (by omega) (Int32.not_lt.mpr q.1) (Int32.not_le.mpr q.2)
    rcases (show j = 0 ∨ j = 1 by omega) with rfl | rfl
    · exact h0 rfl
    · exact h1 rfl
  rw [decide_eq_false this]
  simp [h0, h1, bI]
theorem X11_partOf {B : HSt} {x y : Nat} (hx : x < 2 ^ 63) (hy : y < 2 ^ 63) (h0 : 0 < y) (part : Int32) : f_X11_partOf B (lN x) (lN y) part = some (if isN part 2 = true then lN ((if part = 0 then x else y) / Nat.gcd x y) else -9223372036854775808, B) := by
  have hg : 0 < Nat.gcd x y := Nat.gcd_pos_of_pos_right x h0
  have hg2 : Nat.gcd x y ≤ y := Nat.gcd_le_right x h0
  unfold f_X11_partOf
  rw [X11_greatestDivisor hx hy, bd2_some, if_neg (fun q => by have := (pk_lLT (b := 1) (show Nat.gcd x y < 2 ^ 63 by omega) (by omega)).mp ((lg_cmp_lt _ _).mp q); omega), X11_isOneOfTwo, bd2_some, bI_if, if_pos (fun q => by have := (pk_lEQ (b := 0) (show Nat.gcd x y < 2 ^ 63 by omega) (by omega)).mp q; omega), if_pos (fun q => by have := (pk_lEQ (b := 0) (show Nat.gcd x y < 2 ^ 63 by omega) (by omega)).mp q; omega), pk_lDiv hx hg (by omega), pk_lDiv hy hg (by omega)]
  by_cases h : isN part 2 = true
  · rw [if_pos h, if_pos h]
    by_cases h : part = 0
    · rw [if_pos h, if_pos h]
    · rw [if_neg h, if_neg h]
  · rw [if_neg h, if_neg h]
