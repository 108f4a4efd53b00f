/-! THE REFERENCE'S CELLS, laid over any heap; its smallest methods. Pure: no machine from here on. -/
-- (not by rfl: a step by rfl lets the kernel compare whole methods)
theorem ob {α β : Type} (a : α) (f : α → Option β) : (some a).bind f = f a := Eq.trans (Option.bind_some a f) (Eq.refl _)
/-- what is kept: s, image, hasImage, ran, bodies -/
abbrev MO : Type := (Nat → Int32) × (Nat → Int32) × Int32 × Int32 × (Nat → Int32)
/-- scratch: ints by their fields' numbers, all, truths, many, holds, ways -/
abbrev MC : Type := (Nat → Int32) × Int64 × (Nat → Int32) × (Nat → Int32) × (Nat → Int32) × (Nat → Int64)
def mF (m : Nat) (o : MO) (c : MC) : List Value := [.int (c.1 0), .ref (m + 1), .ref (m + 2), .int o.2.2.1, .int (c.1 4), .int (c.1 5), .int (c.1 6), .int (c.1 7), .int (c.1 8), .ref (m + 3), .ref (m + 4), .ref (m + 5), .int (c.1 12), .ref (m + 6), .long c.2.1, .ref (m + 7), .int o.2.2.2.1, .int (c.1 17), .int (c.1 18), .int (c.1 19)]
def mCell (m : Nat) (o : MO) (c : MC) (a : Nat) : Option HC :=
  if a = m then some (.inr (12, mF m o c)) else if a = m + 1 then some (.inl (0, 1735, .inl o.1)) else if a = m + 2 then some (.inl (0, 1735, .inl o.2.1)) else if a = m + 3 then some (.inl (2, 64, .inl c.2.2.1)) else if a = m + 4 then some (.inl (0, 5, .inl c.2.2.2.1)) else if a = m + 5 then some (.inl (2, 5, .inl c.2.2.2.2.1)) else if a = m + 6 then some (.inl (3, 11, .inr (.inl c.2.2.2.2.2))) else if a = m + 7 then some (.inl (0, 20, .inl o.2.2.2.2)) else none
def hM (m : Nat) (o : MO) (c : MC) (B : HSt) : HSt := (fun a => if m ≤ a ∧ a < m + 8 then mCell m o c a else B.1 a, B.2)
theorem hM_0 (m : Nat) (o : MO) (c : MC) (B : HSt) : (hM m o c B).1 m = some (.inr (12, mF m o c)) := by simp [hM, mCell]
theorem hM_1 (m : Nat) (o : MO) (c : MC) (B : HSt) : (hM m o c B).1 (m + 1) = some (.inl (0, 1735, .inl o.1)) := by simp [hM, mCell]
theorem hM_2 (m : Nat) (o : MO) (c : MC) (B : HSt) : (hM m o c B).1 (m + 2) = some (.inl (0, 1735, .inl o.2.1)) := by simp [hM, mCell]
theorem hM_3 (m : Nat) (o : MO) (c : MC) (B : HSt) : (hM m o c B).1 (m + 3) = some (.inl (2, 64, .inl c.2.2.1)) := by simp [hM, mCell]
theorem hM_4 (m : Nat) (o : MO) (c : MC) (B : HSt) : (hM m o c B).1 (m + 4) = some (.inl (0, 5, .inl c.2.2.2.1)) := by simp [hM, mCell]
theorem hM_5 (m : Nat) (o : MO) (c : MC) (B : HSt) : (hM m o c B).1 (m + 5) = some (.inl (2, 5, .inl c.2.2.2.2.1)) := by simp [hM, mCell]
theorem hM_6 (m : Nat) (o : MO) (c : MC) (B : HSt) : (hM m o c B).1 (m + 6) = some (.inl (3, 11, .inr (.inl c.2.2.2.2.2))) := by simp [hM, mCell]
theorem hM_7 (m : Nat) (o : MO) (c : MC) (B : HSt) : (hM m o c B).1 (m + 7) = some (.inl (0, 20, .inl o.2.2.2.2)) := by simp [hM, mCell]
theorem hM_C (m : Nat) (o : MO) (c : MC) (B : HSt) : gC (hM m o c B) m = some 12 := by simp [gC, hM_0]
-- references
theorem mR_1 (m : Nat) (o : MO) (c : MC) (B : HSt) : gR (hM m o c B) m 12 1 = some (m + 1) := by simp [gR, hM_0, mF]
theorem mR_2 (m : Nat) (o : MO) (c : MC) (B : HSt) : gR (hM m o c B) m 12 2 = some (m + 2) := by simp [gR, hM_0, mF]
theorem mR_9 (m : Nat) (o : MO) (c : MC) (B : HSt) : gR (hM m o c B) m 12 9 = some (m + 3) := by simp [gR, hM_0, mF]
theorem mR_10 (m : Nat) (o : MO) (c : MC) (B : HSt) : gR (hM m o c B) m 12 10 = some (m + 4) := by simp [gR, hM_0, mF]
theorem mR_11 (m : Nat) (o : MO) (c : MC) (B : HSt) : gR (hM m o c B) m 12 11 = some (m + 5) := by simp [gR, hM_0, mF]
theorem mR_13 (m : Nat) (o : MO) (c : MC) (B : HSt) : gR (hM m o c B) m 12 13 = some (m + 6) := by simp [gR, hM_0, mF]
theorem mR_15 (m : Nat) (o : MO) (c : MC) (B : HSt) : gR (hM m o c B) m 12 15 = some (m + 7) := by simp [gR, hM_0, mF]
-- numbers
theorem mI_3 (m : Nat) (o : MO) (c : MC) (B : HSt) : gI (hM m o c B) m 12 3 = some o.2.2.1 := by simp [gI, hM_0, mF]
theorem mI_4 (m : Nat) (o : MO) (c : MC) (B : HSt) : gI (hM m o c B) m 12 4 = some (c.1 4) := by simp [gI, hM_0, mF]
theorem mI_5 (m : Nat) (o : MO) (c : MC) (B : HSt) : gI (hM m o c B) m 12 5 = some (c.1 5) := by simp [gI, hM_0, mF]
theorem mI_6 (m : Nat) (o : MO) (c : MC) (B : HSt) : gI (hM m o c B) m 12 6 = some (c.1 6) := by simp [gI, hM_0, mF]
theorem mI_7 (m : Nat) (o : MO) (c : MC) (B : HSt) : gI (hM m o c B) m 12 7 = some (c.1 7) := by simp [gI, hM_0, mF]
theorem mI_8 (m : Nat) (o : MO) (c : MC) (B : HSt) : gI (hM m o c B) m 12 8 = some (c.1 8) := by simp [gI, hM_0, mF]
theorem mI_12 (m : Nat) (o : MO) (c : MC) (B : HSt) : gI (hM m o c B) m 12 12 = some (c.1 12) := by simp [gI, hM_0, mF]
theorem mI_16 (m : Nat) (o : MO) (c : MC) (B : HSt) : gI (hM m o c B) m 12 16 = some o.2.2.2.1 := by simp [gI, hM_0, mF]
theorem mI_17 (m : Nat) (o : MO) (c : MC) (B : HSt) : gI (hM m o c B) m 12 17 = some (c.1 17) := by simp [gI, hM_0, mF]
theorem mI_18 (m : Nat) (o : MO) (c : MC) (B : HSt) : gI (hM m o c B) m 12 18 = some (c.1 18) := by simp [gI, hM_0, mF]
theorem mI_19 (m : Nat) (o : MO) (c : MC) (B : HSt) : gI (hM m o c B) m 12 19 = some (c.1 19) := by simp [gI, hM_0, mF]
theorem mL_14 (m : Nat) (o : MO) (c : MC) (B : HSt) : gL (hM m o c B) m 12 14 = some c.2.1 := by simp [gL, hM_0, mF]
-- a written cell
theorem hM_up {m : Nat} {o o' : MO} {c c' : MC} {B : HSt} {a : Nat} {e : HC} (ha : m ≤ a ∧ a < m + 8) (he : mCell m o' c' a = some e) (ho : ∀ q, m ≤ q → q < m + 8 → q ≠ a → mCell m o' c' q = mCell m o c q) : hUp (hM m o c B) a e = hM m o' c' B := by
  refine Prod.ext (funext fun q => ?_) rfl
  show (if q = a then some e else if m ≤ q ∧ q < m + 8 then mCell m o c q else B.1 q) = if m ≤ q ∧ q < m + 8 then mCell m o' c' q else B.1 q
  by_cases hq : q = a
  · subst hq
    rw [if_pos rfl, if_pos ha, he]
  · rw [if_neg hq]
    by_cases hr : m ≤ q ∧ q < m + 8
    · rw [if_pos hr, if_pos hr, ho q hr.1 hr.2 hq]
    · rw [if_neg hr, if_neg hr]
/-- a field's place in the scratch -/
def cI (c : MC) (k : Nat) (x : Int32) : MC := (upd c.1 k x, c.2)
def cA (c : MC) (x : Int64) : MC := (c.1, x, c.2.2)
def cT (c : MC) (f : Nat → Int32) : MC := (c.1, c.2.1, f, c.2.2.2)
def cN (c : MC) (f : Nat → Int32) : MC := (c.1, c.2.1, c.2.2.1, f, c.2.2.2.2)
def cH (c : MC) (f : Nat → Int32) : MC := (c.1, c.2.1, c.2.2.1, c.2.2.2.1, f, c.2.2.2.2.2)
def cW (c : MC) (f : Nat → Int64) : MC := (c.1, c.2.1, c.2.2.1, c.2.2.2.1, c.2.2.2.2.1, f)
def oS (o : MO) (f : Nat → Int32) : MO := (f, o.2)
def oG (o : MO) (f : Nat → Int32) : MO := (o.1, f, o.2.2)
def oH (o : MO) (x : Int32) : MO := (o.1, o.2.1, x, o.2.2.2)
def oR (o : MO) (x : Int32) : MO := (o.1, o.2.1, o.2.2.1, x, o.2.2.2.2)
def oB (o : MO) (f : Nat → Int32) : MO := (o.1, o.2.1, o.2.2.1, o.2.2.2.1, f)
theorem mP_4 (m : Nat) (o : MO) (c : MC) (B : HSt) (x : Int32) : pV (hM m o c B) m 12 4 (.int x) = some (hM m o (cI c 4 x) B) := by
  simp only [pV, hM_0, true_and]
  rw [if_pos (by simp [mF])]
  refine congrArg some (hM_up ⟨Nat.le_refl _, by omega⟩ ?_ ?_)
  · simp [mCell, mF, cI, upd]
  · intro q h1 h2 h3
    simp [mCell, h3, cI]
theorem mP_5 (m : Nat) (o : MO) (c : MC) (B : HSt) (x : Int32) : pV (hM m o c B) m 12 5 (.int x) = some (hM m o (cI c 5 x) B) := by
  simp only [pV, hM_0, true_and]
  rw [if_pos (by simp [mF])]
  refine congrArg some (hM_up ⟨Nat.le_refl _, by omega⟩ ?_ ?_)
  · simp [mCell, mF, cI, upd]
  · intro q h1 h2 h3
    simp [mCell, h3, cI]
theorem mP_6 (m : Nat) (o : MO) (c : MC) (B : HSt) (x : Int32) : pV (hM m o c B) m 12 6 (.int x) = some (hM m o (cI c 6 x) B) := by
  simp only [pV, hM_0, true_and]
  rw [if_pos (by simp [mF])]
  refine congrArg some (hM_up ⟨Nat.le_refl _, by omega⟩ ?_ ?_)
  · simp [mCell, mF, cI, upd]
  · intro q h1 h2 h3
    simp [mCell, h3, cI]
theorem mP_7 (m : Nat) (o : MO) (c : MC) (B : HSt) (x : Int32) : pV (hM m o c B) m 12 7 (.int x) = some (hM m o (cI c 7 x) B) := by
  simp only [pV, hM_0, true_and]
  rw [if_pos (by simp [mF])]
  refine congrArg some (hM_up ⟨Nat.le_refl _, by omega⟩ ?_ ?_)
  · simp [mCell, mF, cI, upd]
  · intro q h1 h2 h3
    simp [mCell, h3, cI]
theorem mP_8 (m : Nat) (o : MO) (c : MC) (B : HSt) (x : Int32) : pV (hM m o c B) m 12 8 (.int x) = some (hM m o (cI c 8 x) B) := by
  simp only [pV, hM_0, true_and]
  rw [if_pos (by simp [mF])]
  refine congrArg some (hM_up ⟨Nat.le_refl _, by omega⟩ ?_ ?_)
  · simp [mCell, mF, cI, upd]
  · intro q h1 h2 h3
    simp [mCell, h3, cI]
theorem mP_12 (m : Nat) (o : MO) (c : MC) (B : HSt) (x : Int32) : pV (hM m o c B) m 12 12 (.int x) = some (hM m o (cI c 12 x) B) := by
  simp only [pV, hM_0, true_and]
  rw [if_pos (by simp [mF])]
  refine congrArg some (hM_up ⟨Nat.le_refl _, by omega⟩ ?_ ?_)
  · simp [mCell, mF, cI, upd]
  · intro q h1 h2 h3
    simp [mCell, h3, cI]
theorem mP_17 (m : Nat) (o : MO) (c : MC) (B : HSt) (x : Int32) : pV (hM m o c B) m 12 17 (.int x) = some (hM m o (cI c 17 x) B) := by
  simp only [pV, hM_0, true_and]
  rw [if_pos (by simp [mF])]
  refine congrArg some (hM_up ⟨Nat.le_refl _, by omega⟩ ?_ ?_)
  · simp [mCell, mF, cI, upd]
  · intro q h1 h2 h3
    simp [mCell, h3, cI]
theorem mP_18 (m : Nat) (o : MO) (c : MC) (B : HSt) (x : Int32) : pV (hM m o c B) m 12 18 (.int x) = some (hM m o (cI c 18 x) B) := by
  simp only [pV, hM_0, true_and]
  rw [if_pos (by simp [mF])]
  refine congrArg some (hM_up ⟨Nat.le_refl _, by omega⟩ ?_ ?_)
  · simp [mCell, mF, cI, upd]
  · intro q h1 h2 h3
    simp [mCell, h3, cI]
theorem mP_19 (m : Nat) (o : MO) (c : MC) (B : HSt) (x : Int32) : pV (hM m o c B) m 12 19 (.int x) = some (hM m o (cI c 19 x) B) := by
  simp only [pV, hM_0, true_and]
  rw [if_pos (by simp [mF])]
  refine congrArg some (hM_up ⟨Nat.le_refl _, by omega⟩ ?_ ?_)
  · simp [mCell, mF, cI, upd]
  · intro q h1 h2 h3
    simp [mCell, h3, cI]
theorem mP_3 (m : Nat) (o : MO) (c : MC) (B : HSt) (x : Int32) : pV (hM m o c B) m 12 3 (.int x) = some (hM m (oH o x) c B) := by
  simp only [pV, hM_0, true_and]
  rw [if_pos (by simp [mF])]
  refine congrArg some (hM_up ⟨Nat.le_refl _, by omega⟩ ?_ ?_)
  · simp [mCell, mF, oH]
  · intro q h1 h2 h3
    simp [mCell, h3, oH]
theorem mP_16 (m : Nat) (o : MO) (c : MC) (B : HSt) (x : Int32) : pV (hM m o c B) m 12 16 (.int x) = some (hM m (oR o x) c B) := by
  simp only [pV, hM_0, true_and]
  rw [if_pos (by simp [mF])]
  refine congrArg some (hM_up ⟨Nat.le_refl _, by omega⟩ ?_ ?_)
  · simp [mCell, mF, oR]
  · intro q h1 h2 h3
    simp [mCell, h3, oR]
theorem mP_14 (m : Nat) (o : MO) (c : MC) (B : HSt) (x : Int64) : pV (hM m o c B) m 12 14 (.long x) = some (hM m o (cA c x) B) := by
  simp only [pV, hM_0, true_and]
  rw [if_pos (by simp [mF])]
  refine congrArg some (hM_up ⟨Nat.le_refl _, by omega⟩ ?_ ?_)
  · simp [mCell, mF, cA]
  · intro q h1 h2 h3
    simp [mCell, h3, cA]
theorem mA_s (m : Nat) (o : MO) (c : MC) (B : HSt) {i : Int32} {k : Nat} (hi : i = nI k) (hk : k < 1735) : aI (hM m o c B) (m + 1) 0 i = some (o.1 k) := by
  subst hi
  simp only [aI, hM_1, true_and]
  rw [if_pos (nI_in hk (by omega)), nI_clamp (by omega)]
theorem mS_s (m : Nat) (o : MO) (c : MC) (B : HSt) {i : Int32} {k : Nat} (hi : i = nI k) (hk : k < 1735) (x : Int32) : sI (hM m o c B) (m + 1) 0 i x = some (hM m (oS o (upd o.1 k x)) c B) := by
  subst hi
  simp only [sI, hM_1, true_and]
  rw [if_pos (nI_in hk (by omega)), nI_clamp (by omega)]
  refine congrArg some (hM_up ⟨by omega, by omega⟩ ?_ ?_)
  · simp [mCell, oS]
  · intro q h1 h2 h3
    have h3 : ¬ q = m + 1 := h3
    simp only [mCell, oS]
    by_cases h4 : q = m
    · simp [h4, mF]
    · simp [h4, h3]
theorem mA_g (m : Nat) (o : MO) (c : MC) (B : HSt) {i : Int32} {k : Nat} (hi : i = nI k) (hk : k < 1735) : aI (hM m o c B) (m + 2) 0 i = some (o.2.1 k) := by
  subst hi
  simp only [aI, hM_2, true_and]
  rw [if_pos (nI_in hk (by omega)), nI_clamp (by omega)]
theorem mS_g (m : Nat) (o : MO) (c : MC) (B : HSt) {i : Int32} {k : Nat} (hi : i = nI k) (hk : k < 1735) (x : Int32) : sI (hM m o c B) (m + 2) 0 i x = some (hM m (oG o (upd o.2.1 k x)) c B) := by
  subst hi
  simp only [sI, hM_2, true_and]
  rw [if_pos (nI_in hk (by omega)), nI_clamp (by omega)]
  refine congrArg some (hM_up ⟨by omega, by omega⟩ ?_ ?_)
  · simp [mCell, oG]
  · intro q h1 h2 h3
    have h3 : ¬ q = m + 2 := h3
    simp only [mCell, oG]
    by_cases h4 : q = m
    · simp [h4, mF]
    · simp [h4, h3]
theorem mA_t (m : Nat) (o : MO) (c : MC) (B : HSt) {i : Int32} {k : Nat} (hi : i = nI k) (hk : k < 64) : aI (hM m o c B) (m + 3) 2 i = some (c.2.2.1 k) := by
  subst hi
  simp only [aI, hM_3, true_and]
  rw [if_pos (nI_in hk (by omega)), nI_clamp (by omega)]
theorem mS_t (m : Nat) (o : MO) (c : MC) (B : HSt) {i : Int32} {k : Nat} (hi : i = nI k) (hk : k < 64) (x : Int32) : sI (hM m o c B) (m + 3) 2 i x = some (hM m o (cT c (upd c.2.2.1 k x)) B) := by
  subst hi
  simp only [sI, hM_3, true_and]
  rw [if_pos (nI_in hk (by omega)), nI_clamp (by omega)]
  refine congrArg some (hM_up ⟨by omega, by omega⟩ ?_ ?_)
  · simp [mCell, cT]
  · intro q h1 h2 h3
    have h3 : ¬ q = m + 3 := h3
    simp only [mCell, cT]
    by_cases h4 : q = m
    · simp [h4, mF]
    · simp [h4, h3]
theorem mA_n (m : Nat) (o : MO) (c : MC) (B : HSt) {i : Int32} {k : Nat} (hi : i = nI k) (hk : k < 5) : aI (hM m o c B) (m + 4) 0 i = some (c.2.2.2.1 k) := by
  subst hi
  simp only [aI, hM_4, true_and]
  rw [if_pos (nI_in hk (by omega)), nI_clamp (by omega)]
theorem mS_n (m : Nat) (o : MO) (c : MC) (B : HSt) {i : Int32} {k : Nat} (hi : i = nI k) (hk : k < 5) (x : Int32) : sI (hM m o c B) (m + 4) 0 i x = some (hM m o (cN c (upd c.2.2.2.1 k x)) B) := by
  subst hi
  simp only [sI, hM_4, true_and]
  rw [if_pos (nI_in hk (by omega)), nI_clamp (by omega)]
  refine congrArg some (hM_up ⟨by omega, by omega⟩ ?_ ?_)
  · simp [mCell, cN]
  · intro q h1 h2 h3
    have h3 : ¬ q = m + 4 := h3
    simp only [mCell, cN]
    by_cases h4 : q = m
    · simp [h4, mF]
    · simp [h4, h3]
theorem mA_h (m : Nat) (o : MO) (c : MC) (B : HSt) {i : Int32} {k : Nat} (hi : i = nI k) (hk : k < 5) : aI (hM m o c B) (m + 5) 2 i = some (c.2.2.2.2.1 k) := by
  subst hi
  simp only [aI, hM_5, true_and]
  rw [if_pos (nI_in hk (by omega)), nI_clamp (by omega)]
theorem mS_h (m : Nat) (o : MO) (c : MC) (B : HSt) {i : Int32} {k : Nat} (hi : i = nI k) (hk : k < 5) (x : Int32) : sI (hM m o c B) (m + 5) 2 i x = some (hM m o (cH c (upd c.2.2.2.2.1 k x)) B) := by
  subst hi
  simp only [sI, hM_5, true_and]
  rw [if_pos (nI_in hk (by omega)), nI_clamp (by omega)]
  refine congrArg some (hM_up ⟨by omega, by omega⟩ ?_ ?_)
  · simp [mCell, cH]
  · intro q h1 h2 h3
    have h3 : ¬ q = m + 5 := h3
    simp only [mCell, cH]
    by_cases h4 : q = m
    · simp [h4, mF]
    · simp [h4, h3]
theorem mA_b (m : Nat) (o : MO) (c : MC) (B : HSt) {i : Int32} {k : Nat} (hi : i = nI k) (hk : k < 20) : aI (hM m o c B) (m + 7) 0 i = some (o.2.2.2.2 k) := by
  subst hi
  simp only [aI, hM_7, true_and]
  rw [if_pos (nI_in hk (by omega)), nI_clamp (by omega)]
theorem mS_b (m : Nat) (o : MO) (c : MC) (B : HSt) {i : Int32} {k : Nat} (hi : i = nI k) (hk : k < 20) (x : Int32) : sI (hM m o c B) (m + 7) 0 i x = some (hM m (oB o (upd o.2.2.2.2 k x)) c B) := by
  subst hi
  simp only [sI, hM_7, true_and]
  rw [if_pos (nI_in hk (by omega)), nI_clamp (by omega)]
  refine congrArg some (hM_up ⟨by omega, by omega⟩ ?_ ?_)
  · simp [mCell, oB]
  · intro q h1 h2 h3
    have h3 : ¬ q = m + 7 := h3
    simp only [mCell, oB]
    by_cases h4 : q = m
    · simp [h4, mF]
    · simp [h4, h3]
theorem mA_w (m : Nat) (o : MO) (c : MC) (B : HSt) {i : Int32} {k : Nat} (hi : i = nI k) (hk : k < 11) : aL (hM m o c B) (m + 6) i = some (c.2.2.2.2.2 k) := by
  subst hi
  simp only [aL, hM_6, true_and]
  rw [if_pos (nI_in hk (by omega)), nI_clamp (by omega)]
theorem mS_w (m : Nat) (o : MO) (c : MC) (B : HSt) {i : Int32} {k : Nat} (hi : i = nI k) (hk : k < 11) (x : Int64) : sL (hM m o c B) (m + 6) i x = some (hM m o (cW c (vp_updL c.2.2.2.2.2 k x)) B) := by
  subst hi
  simp only [sL, hM_6, true_and]
  rw [if_pos (nI_in hk (by omega)), nI_clamp (by omega)]
  refine congrArg some (hM_up ⟨by omega, by omega⟩ ?_ ?_)
  · simp [mCell, cW]
  · intro q h1 h2 h3
    have h3 : ¬ q = m + 6 := h3
    simp only [mCell, cW]
    by_cases h4 : q = m
    · simp [h4, mF]
    · simp [h4, h3]
