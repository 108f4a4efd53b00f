/-! BOTH: rods, holes, fields -/
theorem lh1 {α : Type} (v lo hi : Int32) (x y : α) : (if v < lo then x else if hi < v then x else y) = if lo ≤ v ∧ v ≤ hi then y else x := by
  by_cases h1 : v < lo
  · rw [if_pos h1, if_neg (fun q => absurd h1 (Int32.not_lt.mpr q.1))]
  · rw [if_neg h1]
    by_cases h2 : hi < v
    · rw [if_pos h2, if_neg (fun q => absurd h2 (Int32.not_lt.mpr q.2))]
    · rw [if_neg h2, if_pos ⟨Int32.not_lt.mp h1, Int32.not_lt.mp h2⟩]
theorem lh2 {α : Type} (v lo hi : Int32) (x y : α) : (if v < lo then x else if v ≤ hi then y else x) = if lo ≤ v ∧ v ≤ hi then y else x := by
  by_cases h1 : v < lo
  · rw [if_pos h1, if_neg (fun q => absurd h1 (Int32.not_lt.mpr q.1))]
  · rw [if_neg h1]
    by_cases h2 : v ≤ hi
    · rw [if_pos h2, if_pos ⟨Int32.not_lt.mp h1, h2⟩]
    · rw [if_neg h2, if_neg (fun q => h2 q.2)]
theorem lh3 {α : Type} (p : Prop) [Decidable p] (x y : α) : (if (if p then (1 : Int32) else 0) = 0 then x else y) = if p then y else x := by
  by_cases h : p
  · rw [if_pos h, if_pos h, if_neg (by decide)]
  · rw [if_neg h, if_neg h, if_pos rfl]
def rodI (a b c : Int32) : Int32 := if 0 ≤ a ∧ a ≤ 9 then (if -99 ≤ b ∧ b ≤ 99 then (if 0 ≤ c ∧ c ≤ 999 then oI (fromN (fun x => decide (¬ a * nI x + b ≤ c)) 100 0) else -2) else -2) else -2
theorem X11_rod (S : HSt) (n : Nat) (a b c : Int32) : f_X11_rod S n a b c = some (rodI a b c, S) := by
  unfold f_X11_rod rodI
  rw [lh1, lh1, lh2]
  have L : ∀ (d i f : Nat), i + d = 100 → d < f → f_X11_rod_L39 a b c f_X11_rod_K65 f (nI i) S = some (oI (fromN (fun x => decide (¬ a * nI x + b ≤ c)) d i), S) := by
    intro d
    induction d with
    | zero =>
      intro i f hi hf
      obtain ⟨f, rfl⟩ : ∃ g, f = g + 1 := ⟨f - 1, by omega⟩
      rw [f_X11_rod_L39]
      unfold f_X11_rod_B39
      rw [if_pos (show (100 : Int32) ≤ nI i from nI_le (a := 100) (by omega) (by omega))]
      rfl
    | succ d ih =>
      intro i f hi hf
      obtain ⟨f, rfl⟩ : ∃ g, f = g + 1 := ⟨f - 1, by omega⟩
      rw [f_X11_rod_L39]
      unfold f_X11_rod_B39
      rw [if_neg (show ¬ (100 : Int32) ≤ nI i from nI_ge (b := 100) (by omega) (by omega)), nI_1, ih (i + 1) f (by omega) (by omega), fromN]
      by_cases h : a * nI i + b ≤ c
      · rw [if_pos h, if_neg (by simp [h])]
      · rw [if_neg h, if_pos (decide_eq_true h)]; rfl
  have L0 := L 100 0 FU (by omega) (by show 100 < 100000; omega)
  rw [show nI 0 = (0 : Int32) from rfl] at L0
  rw [L0]
  repeat' split
  all_goals rfl
theorem X12_rod (S : HSt) (n : Nat) (a b c : Int32) : f_X12_rod S n a b c = some (rodI a b c, S) := by
  unfold f_X12_rod rodI
  rw [X12_in, bd2_some, lh3, X12_in, bd2_some, lh3, X12_in, bd2_some, lh3]
  have L : ∀ (d i f : Nat), i + d = 100 → d < f → f_X12_rod_L38 a b c f_X12_rod_K64 f (nI i) S = some (oI (fromN (fun x => decide (¬ a * nI x + b ≤ c)) d i), S) := by
    intro d
    induction d with
    | zero =>
      intro i f hi hf
      obtain ⟨f, rfl⟩ : ∃ g, f = g + 1 := ⟨f - 1, by omega⟩
      rw [f_X12_rod_L38]
      unfold f_X12_rod_B38
      rw [if_pos (show (100 : Int32) ≤ nI i from nI_le (a := 100) (by omega) (by omega))]
      rfl
    | succ d ih =>
      intro i f hi hf
      obtain ⟨f, rfl⟩ : ∃ g, f = g + 1 := ⟨f - 1, by omega⟩
      rw [f_X12_rod_L38]
      unfold f_X12_rod_B38
      rw [if_neg (show ¬ (100 : Int32) ≤ nI i from nI_ge (b := 100) (by omega) (by omega)), nI_1, ih (i + 1) f (by omega) (by omega), fromN]
      by_cases h : a * nI i + b ≤ c
      · rw [if_pos h, if_neg (by simp [h])]
      · rw [if_neg h, if_pos (decide_eq_true h)]; rfl
  have L0 := L 100 0 FU (by omega) (by show 100 < 100000; omega)
  rw [show nI 0 = (0 : Int32) from rfl] at L0
  rw [L0]
  repeat' split
  all_goals rfl
theorem X12_power (S : HSt) (b : Nat) {m : Nat} (hm : m < 100) : f_X12_power S (lN b) (nI m) = some (lN (b ^ m), S) := by
  unfold f_X12_power
  have L : ∀ (d i f : Nat), i + d = m → d < f → f_X12_power_L5 (lN b) (nI m) f_X12_power_K21 f (lN (b ^ i)) (nI i) S = some (lN (b ^ m), S) := by
    intro d
    induction d with
    | zero =>
      intro i f hi hf
      obtain ⟨f, rfl⟩ : ∃ g, f = g + 1 := ⟨f - 1, by omega⟩
      rw [f_X12_power_L5]
      unfold f_X12_power_B5
      rw [if_pos (nI_le (by omega) (by omega)), show i = m by omega]
      rfl
    | succ d ih =>
      intro i f hi hf
      obtain ⟨f, rfl⟩ : ∃ g, f = g + 1 := ⟨f - 1, by omega⟩
      rw [f_X12_power_L5]
      unfold f_X12_power_B5
      rw [if_neg (nI_ge (by omega) (by omega)), nI_1, lN_mul, ← Nat.pow_succ]
      exact ih (i + 1) f (by omega) (by omega)
  exact L m 0 FU (by omega) (by show m < 100000; omega)
/-- a number between others -/
theorem btw {x lo : Int32} {n m : Nat} (hn : n < 2 ^ 31) (hlo : lo = nI m) (hm : m < 2 ^ 31) (h : lo ≤ x ∧ x ≤ nI n) : ∃ j, m ≤ j ∧ j ≤ n ∧ x = nI j := by
  subst hlo
  have h0 : ¬ x < 0 := fun q => by
    have q1 := Int32.le_iff_toInt_le.mp h.1
    have q2 := Int32.lt_iff_toInt_lt.mp q
    rw [nI_toInt hm] at q1
    rw [show (0 : Int32).toInt = 0 from rfl] at q2
    omega
  obtain ⟨j, hj, rfl⟩ := nI_of h0
  exact ⟨j, (nI_leI hm hj).mp h.1, (nI_leI hj hn).mp h.2, rfl⟩
theorem pow_b {c n : Nat} (hc : c ≤ 1000) (hn : n ≤ 5) : c ^ n ≤ 1000000000000000 := by
  have h1 : c ^ n ≤ 1000 ^ n := Nat.pow_le_pow_left hc n
  have h2 : 1000 ^ n ≤ 1000 ^ 5 := Nat.pow_le_pow_right (by omega) hn
  have h3 : (1000 : Nat) ^ 5 = 1000000000000000 := by decide
  omega
def holI (c q : Int32) : Int32 := if 0 ≤ c ∧ c ≤ 1000 then (if 1 ≤ q ∧ q ≤ 99 then oI (fromN (fun n => decide (nN c ^ n * nN q ≤ 1000 ^ n)) 6 0) else -2) else -2
theorem X11_holes (S : HSt) (n : Nat) (c q : Int32) : f_X11_holes S n c q = some (holI c q, S) := by
  unfold f_X11_holes holI
  rw [lh1, lh2]
  by_cases h1 : 0 ≤ c ∧ c ≤ 1000
  · by_cases h2 : 1 ≤ q ∧ q ≤ 99
    · rw [if_pos h1, if_pos h2, if_pos h1, if_pos h2]
      obtain ⟨c, -, hc, rfl⟩ := btw (n := 1000) (m := 0) (by omega) rfl (by omega) h1
      obtain ⟨q, -, hq, rfl⟩ := btw (n := 99) (m := 1) (by omega) rfl (by omega) h2
      rw [nN_nI (by omega), nN_nI (by omega)]
      have L : ∀ (d i f : Nat), i + d = 6 → d < f → f_X11_holes_L33 (nI c) (nI q) f_X11_holes_K71 f (lN (c ^ i)) (lN (1000 ^ i)) (nI i) S = some (oI (fromN (fun n => decide (c ^ n * q ≤ 1000 ^ n)) d i), S) := by
        intro d
        induction d with
        | zero =>
          intro i f hi hf
          obtain ⟨f, rfl⟩ : ∃ g, f = g + 1 := ⟨f - 1, by omega⟩
          rw [f_X11_holes_L33]
          unfold f_X11_holes_B33
          rw [if_pos (show (5 : Int32) < nI i from nI_lt (a := 5) (by omega) (by omega))]
          rfl
        | succ d ih =>
          intro i f hi hf
          obtain ⟨f, rfl⟩ : ∃ g, f = g + 1 := ⟨f - 1, by omega⟩
          have b1 := pow_b hc (show i ≤ 5 by omega)
          have b2 := pow_b (show 1000 ≤ 1000 by omega) (show i ≤ 5 by omega)
          have b3 : c ^ i * q ≤ 1000000000000000 * 99 := Nat.mul_le_mul b1 hq
          rw [f_X11_holes_L33]
          unfold f_X11_holes_B33
          rw [if_neg (show ¬ (5 : Int32) < nI i from nI_nlt (b := i) (a := 5) (by omega) (by omega)), nI_l (by omega), nI_l (by omega), lN_mul, lN_mul, show (1000 : Int64) = lN 1000 from rfl, lN_mul, ← Nat.pow_succ, ← Nat.pow_succ, nI_1, ih (i + 1) f (by omega) (by omega), fromN]
          by_cases h : c ^ i * q ≤ 1000 ^ i
          · rw [if_neg (fun z => by have := (pk_lLT (by omega) (by omega)).mp ((lg_cmp_gt _ _).mp z); omega), if_pos (decide_eq_true h)]; rfl
          · rw [if_pos ((lg_cmp_gt _ _).mpr ((pk_lLT (by omega) (by omega)).mpr (by omega))), if_neg (by simp [h])]
      exact L 6 0 FU (by omega) (by show 6 < 100000; omega)
    · rw [if_pos h1, if_neg h2, if_pos h1, if_neg h2]
  · rw [if_neg h1, if_neg h1]
theorem X12_holes (S : HSt) (n : Nat) (c q : Int32) : f_X12_holes S n c q = some (holI c q, S) := by
  unfold f_X12_holes holI
  rw [X12_in, bd2_some, lh3, X12_in, bd2_some, lh3]
  by_cases h1 : 0 ≤ c ∧ c ≤ 1000
  · by_cases h2 : 1 ≤ q ∧ q ≤ 99
    · rw [if_pos h1, if_pos h2, if_pos h1, if_pos h2]
      obtain ⟨c, -, hc, rfl⟩ := btw (n := 1000) (m := 0) (by omega) rfl (by omega) h1
      obtain ⟨q, -, hq, rfl⟩ := btw (n := 99) (m := 1) (by omega) rfl (by omega) h2
      rw [nN_nI (by omega), nN_nI (by omega)]
      have L : ∀ (d i f : Nat), i + d = 6 → d < f → f_X12_holes_L26 (nI c) (nI q) f_X12_holes_K60 f (nI i) S = some (oI (fromN (fun n => decide (c ^ n * q ≤ 1000 ^ n)) d i), S) := by
        intro d
        induction d with
        | zero =>
          intro i f hi hf
          obtain ⟨f, rfl⟩ : ∃ g, f = g + 1 := ⟨f - 1, by omega⟩
          rw [f_X12_holes_L26]
          unfold f_X12_holes_B26
          rw [if_pos (show (6 : Int32) ≤ nI i from nI_le (a := 6) (by omega) (by omega))]
          rfl
        | succ d ih =>
          intro i f hi hf
          obtain ⟨f, rfl⟩ : ∃ g, f = g + 1 := ⟨f - 1, by omega⟩
          have b1 := pow_b hc (show i ≤ 5 by omega)
          have b2 := pow_b (show 1000 ≤ 1000 by omega) (show i ≤ 5 by omega)
          have b3 : c ^ i * q ≤ 1000000000000000 * 99 := Nat.mul_le_mul b1 hq
          rw [f_X12_holes_L26]
          unfold f_X12_holes_B26
          rw [if_neg (show ¬ (6 : Int32) ≤ nI i from nI_ge (b := 6) (by omega) (by omega)), nI_l (by omega), X12_power S c (by omega), bd2_some, show (1000 : Int64) = lN 1000 from rfl, X12_power S 1000 (by omega), bd2_some, nI_l (by omega), lN_mul, nI_1, ih (i + 1) f (by omega) (by omega), fromN]
          by_cases h : c ^ i * q ≤ 1000 ^ i
          · rw [if_neg (fun z => by have := (pk_lLT (by omega) (by omega)).mp ((lg_cmp_gt _ _).mp z); omega), if_pos (decide_eq_true h)]; rfl
          · rw [if_pos ((lg_cmp_gt _ _).mpr ((pk_lLT (by omega) (by omega)).mpr (by omega))), if_neg (by simp [h])]
      exact L 6 0 FU (by omega) (by show 6 < 100000; omega)
    · rw [if_pos h1, if_neg h2, if_pos h1, if_neg h2]
  · rw [if_neg h1, if_neg h1]
def fldI (c m part : Int32) : Int64 := if 0 ≤ c ∧ c ≤ 1000 then (if 0 ≤ m ∧ m ≤ 5 then (if isN part 2 = true then frL (nN c ^ nN m) (1000 ^ nN m) part else NOl) else NOl) else NOl
theorem X11_field (S : HSt) (n : Nat) (c m part : Int32) : f_X11_field S n c m part = some (fldI c m part, S) := by
  unfold f_X11_field fldI
  rw [lh1, lh2]
  by_cases h1 : 0 ≤ c ∧ c ≤ 1000
  · by_cases h2 : 0 ≤ m ∧ m ≤ 5
    · rw [if_pos h1, if_pos h2, if_pos h1, if_pos h2]
      obtain ⟨c, -, hc, rfl⟩ := btw (n := 1000) (m := 0) (by omega) rfl (by omega) h1
      obtain ⟨m, -, hm, rfl⟩ := btw (n := 5) (m := 0) (by omega) rfl (by omega) h2
      rw [nN_nI (by omega), nN_nI (by omega)]
      have b1 := pow_b hc hm
      have b2 := pow_b (show 1000 ≤ 1000 by omega) hm
      have b3 : 0 < 1000 ^ m := Nat.pow_pos (by omega)
      have L : ∀ (d i f : Nat), i + d = m → d < f → f_X11_field_L33 (nI c) (nI m) (f_X11_field_K60 part) f (lN (c ^ i)) (lN (1000 ^ i)) (nI i) S = some (if isN part 2 = true then frL (c ^ m) (1000 ^ m) part else NOl, S) := by
        intro d
        induction d with
        | zero =>
          intro i f hi hf
          obtain ⟨f, rfl⟩ : ∃ g, f = g + 1 := ⟨f - 1, by omega⟩
          rw [f_X11_field_L33]
          unfold f_X11_field_B33
          rw [if_pos (nI_le (by omega) (by omega)), show i = m by omega]
          unfold f_X11_field_K60
          rw [X11_partOf (by omega) (by omega) b3, bd2_some]
          rfl
        | succ d ih =>
          intro i f hi hf
          obtain ⟨f, rfl⟩ : ∃ g, f = g + 1 := ⟨f - 1, by omega⟩
          rw [f_X11_field_L33]
          unfold f_X11_field_B33
          rw [if_neg (nI_ge (by omega) (by omega)), nI_l (by omega), lN_mul, show (1000 : Int64) = lN 1000 from rfl, lN_mul, ← Nat.pow_succ, ← Nat.pow_succ, nI_1, ih (i + 1) f (by omega) (by omega)]
      exact L m 0 FU (by omega) (by show m < 100000; omega)
    · rw [if_pos h1, if_neg h2, if_pos h1, if_neg h2]; rfl
  · rw [if_neg h1, if_neg h1]; rfl
theorem X12_field (S : HSt) (n : Nat) (c m part : Int32) : f_X12_field S n c m part = some (fldI c m part, S) := by
  unfold f_X12_field fldI
  rw [X12_in, bd2_some, lh3, X12_in, bd2_some, lh3, X12_inN part 2 (by omega) (by decide), bd2_some, bI_if]
  by_cases h1 : 0 ≤ c ∧ c ≤ 1000
  · by_cases h2 : 0 ≤ m ∧ m ≤ 5
    · rw [if_pos h1, if_pos h2, if_pos h1, if_pos h2]
      obtain ⟨c, -, hc, rfl⟩ := btw (n := 1000) (m := 0) (by omega) rfl (by omega) h1
      obtain ⟨m, -, hm, rfl⟩ := btw (n := 5) (m := 0) (by omega) rfl (by omega) h2
      have b1 := pow_b hc hm
      have b2 := pow_b (show 1000 ≤ 1000 by omega) hm
      have b3 : 0 < 1000 ^ m := Nat.pow_pos (by omega)
      rw [nN_nI (by omega), nN_nI (by omega), nI_l (by omega), X12_power S c (by omega), bd2_some, show (1000 : Int64) = lN 1000 from rfl, X12_power S 1000 (by omega), bd2_some, X12_lowest (by omega) (by omega) b3, bd2_some]
      by_cases h3 : isN part 2 = true
      · rw [if_pos h3, if_pos h3]; rfl
      · rw [if_neg h3, if_neg h3]; rfl
    · rw [if_pos h1, if_neg h2, if_pos h1, if_neg h2]; rfl
  · rw [if_neg h1, if_neg h1]; rfl
