/-! NUMBERS AND BITS for the pure part (the family 'Int32 by its bits' began as kit/laws' text) -/
def bt (x : Int32) (i : Nat) : Bool := x.toBitVec.getLsbD i
theorem b_ext {x y : Int32} (h : ∀ i, i < 32 → bt x i = bt y i) : x = y := Int32.toBitVec_inj.mp (BitVec.eq_of_getLsbD_eq (fun i hi => h i hi))
theorem b_or (x y : Int32) (i : Nat) : bt (x ||| y) i = (bt x i || bt y i) := by unfold bt; rw [Int32.toBitVec_or, BitVec.getLsbD_or]
theorem b_and (x y : Int32) (i : Nat) : bt (x &&& y) i = (bt x i && bt y i) := by unfold bt; rw [Int32.toBitVec_and, BitVec.getLsbD_and]
theorem b_xor (x y : Int32) (i : Nat) : bt (x ^^^ y) i = (bt x i ^^ bt y i) := by unfold bt; rw [Int32.toBitVec_xor, BitVec.getLsbD_xor]
theorem b_0 (i : Nat) : bt 0 i = false := BitVec.getLsbD_zero
theorem b_1 : ∀ i, i < 32 → bt 1 i = decide (i = 0) := by decide +kernel
theorem s_l : ∀ n, n < 32 → ((nI n &&& 31).toBitVec.smod 32).toNat = n := by decide +kernel
theorem b_shl (n : Nat) (hn : n < 32) (x : Int32) {i : Nat} (hi : i < 32) : bt (x <<< (nI n &&& 31)) i = (decide (n ≤ i) && bt x (i - n)) := by
  unfold bt
  rw [Int32.toBitVec_shiftLeft]
  show (x.toBitVec <<< ((nI n &&& 31).toBitVec.smod 32).toNat).getLsbD i = _
  rw [s_l n hn, BitVec.getLsbD_shiftLeft]
  rcases Nat.lt_or_ge i n with h | h
  · simp [h, Nat.not_le.mpr h]
  · simp [hi, h, Nat.not_lt.mpr h]
theorem b_sshr (n : Nat) (hn : n < 32) (x : Int32) {i : Nat} (hi : i < 32) : bt (x >>> (nI n &&& 31)) i = if n + i < 32 then bt x (n + i) else bt x 31 := by
  unfold bt
  rw [Int32.toBitVec_shiftRight]
  show (x.toBitVec.sshiftRight ((nI n &&& 31).toBitVec.smod 32).toNat).getLsbD i = _
  rw [s_l n hn, BitVec.getLsbD_sshiftRight, BitVec.msb_eq_getLsbD_last]
  simp [hi]
/-- one bit asked for -/
theorem b_ask (x : Int32) {n : Nat} (hn : n < 32) : (x >>> (nI n &&& 31)) &&& 1 = if bt x n then 1 else 0 := by
  apply b_ext
  intro i hi
  rw [b_and, b_sshr n hn x hi, b_1 i hi]
  by_cases h : i = 0
  · subst h
    simp only [Nat.add_zero, hn, if_true, decide_true, Bool.and_true]
    cases bt x n
    · simp [b_0]
    · simp [b_1 0 (by omega)]
  · simp only [h, decide_false, Bool.and_false]
    cases bt x n
    · simp [b_0]
    · simp [b_1 i hi, h]
theorem b_ask1 (x : Int32) {n : Nat} (hn : n < 32) : ((x >>> (nI n &&& 31)) &&& 1 = 1) ↔ bt x n = true := by
  rw [b_ask x hn]
  cases bt x n <;> simp
theorem b_ask0 (x : Int32) {n : Nat} (hn : n < 32) : ((x >>> (nI n &&& 31)) &&& 1 = 0) ↔ bt x n = false := by
  rw [b_ask x hn]
  cases bt x n <;> simp
theorem b_one (n : Nat) (hn : n < 32) {i : Nat} (hi : i < 32) : bt (1 <<< (nI n &&& 31)) i = decide (i = n) := by
  rw [b_shl n hn 1 hi]
  by_cases h : n ≤ i
  · rw [b_1 (i - n) (by omega)]
    by_cases h2 : i = n
    · simp [h2]
    · simp [h2, h]
      omega
  · have : ¬ i = n := by omega
    simp [h, this]
/-- the set of those below n for which P holds -/
def bits (P : Nat → Bool) : Nat → Int32
  | 0 => 0
  | n + 1 => if P n then bits P n ||| (1 <<< (nI n &&& 31)) else bits P n
theorem bits_bt (P : Nat → Bool) : ∀ (n : Nat), n ≤ 31 → ∀ i, i < 32 → bt (bits P n) i = (decide (i < n) && P i) := by
  intro n
  induction n with
  | zero =>
    intro _ i hi
    simp [bits, b_0]
  | succ n ih =>
    intro hn i hi
    unfold bits
    by_cases hP : P n = true
    · rw [if_pos hP, b_or, ih (by omega) i hi, b_one n (by omega) hi]
      by_cases h : i = n
      · subst h
        simp [hP]
      · have h2 : (i < n) = (i < n + 1) := by apply propext; omega
        simp [h, h2]
    · rw [if_neg hP, ih (by omega) i hi]
      by_cases h : i = n
      · subst h
        simp [hP]
      · have h2 : (i < n) = (i < n + 1) := by apply propext; omega
        simp [h2]
theorem bits_cong {P Q : Nat → Bool} : ∀ {n : Nat}, (∀ i, i < n → P i = Q i) → bits P n = bits Q n := by
  intro n
  induction n with
  | zero => intro _; rfl
  | succ n ih =>
    intro h
    unfold bits
    rw [h n (Nat.lt_succ_self n), ih (fun i hi => h i (Nat.lt_succ_of_lt hi))]
theorem bits_and (P Q : Nat → Bool) {n : Nat} (hn : n ≤ 31) : bits P n &&& bits Q n = bits (fun i => P i && Q i) n := by
  apply b_ext
  intro i hi
  rw [b_and, bits_bt _ n hn i hi, bits_bt _ n hn i hi, bits_bt _ n hn i hi]
  cases decide (i < n) <;> cases P i <;> cases Q i <;> rfl
theorem bits_xor (P Q : Nat → Bool) {n : Nat} (hn : n ≤ 31) : bits P n ^^^ bits Q n = bits (fun i => P i ^^ Q i) n := by
  apply b_ext
  intro i hi
  rw [b_xor, bits_bt _ n hn i hi, bits_bt _ n hn i hi, bits_bt _ n hn i hi]
  cases decide (i < n) <;> cases P i <;> cases Q i <;> rfl
theorem bits_zero {P : Nat → Bool} {n : Nat} (hn : n ≤ 31) : bits P n = 0 ↔ ∀ i, i < n → P i = false := by
  constructor
  · intro h i hi
    have := bits_bt P n hn i (by omega)
    rw [h, b_0] at this
    simpa [hi] using this.symm
  · intro h
    apply b_ext
    intro i hi
    rw [bits_bt P n hn i hi, b_0]
    by_cases h2 : i < n
    · simp [h i h2]
    · simp [h2]
theorem or_zero (x : Int32) : x ||| 0 = x := by
  apply b_ext
  intro i _
  rw [b_or, b_0, Bool.or_false]
/-- a number as it stands among the ints -/
def nN (x : Int32) : Nat := x.toNatClampNeg
theorem nN_nI {n : Nat} (h : n < 2 ^ 31) : nN (nI n) = n := nI_clamp h
theorem bd2_some {α β γ : Type} (a : α) (b : β) (f : α → β → Option γ) : bd2 (some (a, b)) f = f a b := Eq.trans (show _ = f a b from rfl) (Eq.refl _)
theorem hqn_eq {α β : Type} (x : α) (f : α → β) : hqn x f = f x := rfl
theorem oC_none {β : Type} (x : β) (f : Nat → β) : oC none x f = x := rfl
theorem oC_some {β : Type} (a : Nat) (x : β) (f : Nat → β) : oC (some a) x f = f a := rfl
/-- how far two numbers are apart -/
def dist (a b : Nat) : Nat := if a ≤ b then b - a else a - b
theorem neg_sub_I (a b : Int32) : -(a - b) = b - a := Int32.neg_sub
theorem nI_subN {a b : Nat} (h : b ≤ a) : nI a - nI b = nI (a - b) := pk_sub h
theorem sub_neg_lt {a b : Nat} (hb : b < 2 ^ 30) (h : a < b) : ¬ 0 ≤ nI a - nI b := by
  intro h2
  have h1 := pk_sneg hb h
  rw [Int32.lt_iff_toInt_lt] at h1
  rw [Int32.le_iff_toInt_le] at h2
  omega
theorem size_nI {a b : Nat} (ha : a < 2 ^ 30) (hb : b < 2 ^ 30) : (if 0 ≤ nI a - nI b then nI a - nI b else -(nI a - nI b)) = nI (dist a b) := by
  unfold dist
  by_cases h : a ≤ b
  · rw [if_pos h]
    by_cases h2 : a = b
    · subst h2
      rw [if_pos (by rw [nI_subN (Nat.le_refl _)]; exact nI_pos' (by omega)), nI_subN (Nat.le_refl _)]
    · rw [if_neg (sub_neg_lt hb (by omega)), neg_sub_I, nI_subN h]
  · rw [if_neg h, if_pos (by rw [nI_subN (by omega)]; exact nI_pos' (by omega)), nI_subN (by omega)]
theorem dist_comm (a b : Nat) : dist a b = dist b a := by
  unfold dist
  by_cases h : a ≤ b <;> by_cases h2 : b ≤ a <;> simp [h, h2] <;> omega
theorem dist_lt {a b n : Nat} (ha : a < n) (hb : b < n) : dist a b < n := by
  unfold dist
  split <;> omega
/-- an int that a test lets through is a small number -/
theorem I_of {x : Int32} {n : Nat} (hn : n < 2 ^ 31) (h0 : ¬ x < 0) (h1 : ¬ nI n ≤ x) : ∃ j, j < n ∧ x = nI j := by
  obtain ⟨j, hj, rfl⟩ := nI_of h0
  refine ⟨j, ?_, rfl⟩
  rw [nI_leI hn hj] at h1
  omega
