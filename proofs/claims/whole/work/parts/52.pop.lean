/-! BITS COUNTED: Integer.bitCount -/
theorem andI (a b : Nat) : nI a &&& nI b = nI (a &&& b) := by
  apply Int32.toBitVec_inj.mp
  rw [Int32.toBitVec_and]
  show BitVec.ofNat 32 a &&& BitVec.ofNat 32 b = BitVec.ofNat 32 (a &&& b)
  apply BitVec.eq_of_getLsbD_eq
  intro i hi
  simp [hi]
theorem and_split (k x m r : Nat) (hr : r < 2 ^ k) : x &&& (2 ^ k * m + r) = 2 ^ k * ((x / 2 ^ k) &&& m) + ((x % 2 ^ k) &&& r) := by
  have h1 : (x &&& (2 ^ k * m + r)) / 2 ^ k = (x / 2 ^ k) &&& m := by
    rw [Nat.and_div_two_pow, Nat.mul_add_div (Nat.two_pow_pos k), Nat.div_eq_of_lt hr, Nat.add_zero]
  have h2 : (x &&& (2 ^ k * m + r)) % 2 ^ k = (x % 2 ^ k) &&& r := by
    rw [Nat.and_mod_two_pow, Nat.mul_add_mod, Nat.mod_eq_of_lt hr]
  have h3 := Nat.div_add_mod (x &&& (2 ^ k * m + r)) (2 ^ k)
  rw [h1, h2] at h3
  exact h3.symm
/-- the steps, over bytes -/
def bcA (m x : Nat) : Nat := x - ((x / 2) &&& m)
def bcB (m x : Nat) : Nat := (x &&& m) + ((x / 4) &&& m)
def bcC (m x : Nat) : Nat := (x + x / 16) &&& m
theorem bcA_eq (m x : Nat) : x - ((x / 2 ^ 1) &&& m) = bcA m x := rfl
theorem bcB_eq (m x : Nat) : (x &&& m) + ((x / 2 ^ 2) &&& m) = bcB m x := rfl
theorem bcC_eq (m x : Nat) : (x + x / 2 ^ 4) &&& m = bcC m x := rfl
theorem and_low (k x r : Nat) (hr : r < 2 ^ k) : x &&& r = (x % 2 ^ k) &&& r := by
  have := and_split k x 0 r hr
  rw [Nat.mul_zero, Nat.zero_add, Nat.and_zero, Nat.mul_zero, Nat.zero_add] at this
  exact this
theorem bcA_s (m h l : Nat) (hl : l < 256) : bcA (256 * m + 85) (256 * h + l) = 256 * bcA m h + bcA 85 l := by
  unfold bcA
  have e := and_split 8 ((256 * h + l) / 2) m 85 (by omega)
  rw [show (2 : Nat) ^ 8 = 256 from rfl] at e
  rw [e, show (256 * h + l) / 2 / 256 = h / 2 by omega, and_low 7 ((256 * h + l) / 2 % 256) 85 (by omega), show (256 * h + l) / 2 % 256 % 2 ^ 7 = l / 2 by omega]
  have h1 : (h / 2) &&& m ≤ h / 2 := Nat.and_le_left
  have h2 : (l / 2) &&& 85 ≤ l / 2 := Nat.and_le_left
  omega
theorem bcB_s (m h l : Nat) (hl : l < 256) : bcB (256 * m + 51) (256 * h + l) = 256 * bcB m h + bcB 51 l := by
  unfold bcB
  have e := and_split 8 ((256 * h + l) / 4) m 51 (by omega)
  have e2 := and_split 8 (256 * h + l) m 51 (by omega)
  rw [show (2 : Nat) ^ 8 = 256 from rfl] at e e2
  rw [e, e2, show (256 * h + l) / 4 / 256 = h / 4 by omega, show (256 * h + l) / 256 = h by omega, show (256 * h + l) % 256 = l by omega, and_low 6 ((256 * h + l) / 4 % 256) 51 (by omega), show (256 * h + l) / 4 % 256 % 2 ^ 6 = l / 4 by omega]
  omega
theorem bcC_s (m h l : Nat) (hl : l + l / 16 ≤ 128) (hh : h % 16 < 8) : bcC (256 * m + 15) (256 * h + l) = 256 * bcC m h + bcC 15 l := by
  unfold bcC
  have e := and_split 8 ((256 * h + l) + (256 * h + l) / 16) m 15 (by omega)
  rw [show (2 : Nat) ^ 8 = 256 from rfl] at e
  rw [e, show ((256 * h + l) + (256 * h + l) / 16) / 256 = h + h / 16 by omega, and_low 4 (((256 * h + l) + (256 * h + l) / 16) % 256) 15 (by omega), and_low 4 (l + l / 16) 15 (by omega)]
  congr 2
  omega
theorem smN_S (f : Nat → Nat) (n : Nat) : smN f (n + 1) = smN f n + f n := rfl
theorem smN_32 (f : Nat → Nat) : smN f 32 = smN f 30 + f 30 + f 31 := (smN_S f 31).trans (congrArg (· + f 31) (smN_S f 30))
def popB (b : Nat) : Nat := smN (fun j => if b.testBit j = true then 1 else 0) 8
theorem byte_ok : ∀ b, b < 256 → bcA 85 b < 256 ∧ bcB 51 (bcA 85 b) < 256 ∧ bcB 51 (bcA 85 b) + bcB 51 (bcA 85 b) / 16 ≤ 128 ∧ bcB 51 (bcA 85 b) % 16 < 8 ∧ bcC 15 (bcB 51 (bcA 85 b)) = popB b ∧ popB b ≤ 8 := by decide +kernel
theorem bc_all {b0 b1 b2 b3 : Nat} (h0 : b0 < 256) (h1 : b1 < 256) (h2 : b2 < 256) (h3 : b3 < 256) : bcC 252645135 (bcB 858993459 (bcA 1431655765 (256 * (256 * (256 * b3 + b2) + b1) + b0))) = 256 * (256 * (256 * popB b3 + popB b2) + popB b1) + popB b0 := by
  obtain ⟨p0, q0, r0, s0, t0, -⟩ := byte_ok b0 h0
  obtain ⟨p1, q1, r1, s1, t1, -⟩ := byte_ok b1 h1
  obtain ⟨p2, q2, r2, s2, t2, -⟩ := byte_ok b2 h2
  obtain ⟨p3, q3, r3, s3, t3, -⟩ := byte_ok b3 h3
  rw [show (1431655765 : Nat) = 256 * (256 * (256 * 85 + 85) + 85) + 85 by rfl, bcA_s _ _ _ h0, bcA_s _ _ _ h1, bcA_s _ _ _ h2, show (858993459 : Nat) = 256 * (256 * (256 * 51 + 51) + 51) + 51 by rfl, bcB_s _ _ _ p0, bcB_s _ _ _ p1, bcB_s _ _ _ p2, show (252645135 : Nat) = 256 * (256 * (256 * 15 + 15) + 15) + 15 by rfl, bcC_s _ _ _ r0 (by omega), bcC_s _ _ _ r1 (by omega), bcC_s _ _ _ r2 s3, t0, t1, t2, t3]
theorem popB_s (X : Nat) (k : Nat) : popB (X / 2 ^ k % 256) = smN (fun j => if X.testBit (k + j) = true then 1 else 0) 8 := by
  unfold popB
  refine smN_cong (fun j hj => ?_)
  rw [show (256 : Nat) = 2 ^ 8 from rfl, Nat.testBit_mod_two_pow, Nat.testBit_div_two_pow]
  simp [hj, Nat.add_comm]
theorem pop_sum (X : Nat) : popB (X % 256) + popB (X / 256 % 256) + popB (X / 65536 % 256) + popB (X / 16777216 % 256) = smN (fun j => if X.testBit j = true then 1 else 0) 32 := by
  have e0 := popB_s X 0
  have e1 := popB_s X 8
  have e2 := popB_s X 16
  have e3 := popB_s X 24
  rw [Nat.pow_zero, Nat.div_one] at e0
  rw [show (2 : Nat) ^ 8 = 256 from rfl] at e1
  rw [show (2 : Nat) ^ 16 = 65536 from rfl] at e2
  rw [show (2 : Nat) ^ 24 = 16777216 from rfl] at e3
  rw [e0, e1, e2, e3, show (32 : Nat) = 24 + 8 from rfl, smN_split, show (24 : Nat) = 16 + 8 from rfl, smN_split, show (16 : Nat) = 8 + 8 from rfl, smN_split]
  simp only [Nat.zero_add]
theorem nI_bv (x : Int32) : nI x.toBitVec.toNat = x := Int32.toBitVec_inj.mp (by show BitVec.ofNat 32 x.toBitVec.toNat = _; simp)
theorem us1 : ((1 : Int32).toUInt32 &&& Int32.toUInt32 31).toBitVec % 32 = 1 := by decide
theorem X_bitCount (S : HSt) (x : Int32) (h30 : bt x 30 = false) (h31 : bt x 31 = false) : f_J6_bitCount_0f7a4 S x = some (nI (numS x), S) := by
  unfold f_J6_bitCount_0f7a4
  generalize hX : x.toBitVec.toNat = X
  have hlt : X < 2 ^ 32 := by rw [← hX]; exact x.toBitVec.isLt
  have ex : x = nI X := by rw [← hX, nI_bv]
  have hb : ∀ k, k < 32 → bt x k = X.testBit k := fun k hk => by
    rw [ex, bt_nI X hk]
  have hn : numS x = smN (fun j => if X.testBit j = true then 1 else 0) 32 := by
    rw [smN_32]
    rw [← hb 30 (by omega), ← hb 31 (by omega), h30, h31]
    rw [if_neg (by decide), Nat.add_zero]
    unfold numS
    exact smN_cong (fun j hj => by rw [hb j (by omega)])
  rw [hn, ← pop_sum X]
  have eX : X = 256 * (256 * (256 * (X / 16777216 % 256) + X / 65536 % 256) + X / 256 % 256) + X % 256 := by omega
  have key : ∀ Y, Y = 256 * (256 * (256 * (X / 16777216 % 256) + X / 65536 % 256) + X / 256 % 256) + X % 256 → bcC 252645135 (bcB 858993459 (bcA 1431655765 Y)) = 256 * (256 * (256 * popB (X / 16777216 % 256) + popB (X / 65536 % 256)) + popB (X / 256 % 256)) + popB (X % 256) := fun Y h => by
    rw [h]
    exact bc_all (Nat.mod_lt _ (by decide)) (Nat.mod_lt _ (by decide)) (Nat.mod_lt _ (by decide)) (Nat.mod_lt _ (by decide))
  have hall := key X eX
  clear key
  have P0 := (byte_ok (X % 256) (Nat.mod_lt _ (by decide))).2.2.2.2.2
  have P1 := (byte_ok (X / 256 % 256) (Nat.mod_lt _ (by decide))).2.2.2.2.2
  have P2 := (byte_ok (X / 65536 % 256) (Nat.mod_lt _ (by decide))).2.2.2.2.2
  have P3 := (byte_ok (X / 16777216 % 256) (Nat.mod_lt _ (by decide))).2.2.2.2.2
  generalize popB (X % 256) = p0 at *
  generalize popB (X / 256 % 256) = p1 at *
  generalize popB (X / 65536 % 256) = p2 at *
  generalize popB (X / 16777216 % 256) = p3 at *
  have a1 : (X / 2 ^ 1) &&& 1431655765 ≤ X / 2 ^ 1 := Nat.and_le_left
  have a2 : X / 2 ^ 1 ≤ X := Nat.div_le_self _ _
  have hA : bcA 1431655765 X < 2 ^ 32 := Nat.lt_of_le_of_lt (Nat.sub_le _ _) hlt
  have hB0 : bcB 858993459 (bcA 1431655765 X) < 2 ^ 31 := by
    unfold bcB
    have q1 : bcA 1431655765 X &&& 858993459 ≤ 858993459 := Nat.and_le_right
    have q2 : (bcA 1431655765 X / 4) &&& 858993459 ≤ 858993459 := Nat.and_le_right
    omega
  have d1 : (256 * (256 * (256 * p3 + p2) + p1) + p0) / 2 ^ 8 = 65536 * p3 + 256 * p2 + p1 := by omega
  have d2 : (256 * (256 * (256 * p3 + p2) + p1) + p0 + (65536 * p3 + 256 * p2 + p1)) / 2 ^ 16 = 256 * p3 + p3 + p2 := by omega
  rw [ex]
  rw [show (1431655765 : Int32) = nI 1431655765 from rfl, show (858993459 : Int32) = nI 858993459 from rfl, show (252645135 : Int32) = nI 252645135 from rfl, show (63 : Int32) = nI 63 from rfl]
  rw [pk_ushrN hlt 1 1 (by decide), andI, pk_sub (Nat.le_trans a1 a2), bcA_eq, hqn_eq, pk_ushrN hA 2 2 (by decide), andI, andI, nI_add, bcB_eq, hqn_eq, pk_ushrN (by omega) 4 4 (by decide), nI_add, andI, bcC_eq, hqn_eq, hall, pk_ushrN (by omega) 8 8 (by decide), d1, nI_add, hqn_eq, pk_ushrN (by omega) 16 16 (by decide), d2, nI_add, hqn_eq, andI, show (63 : Nat) = 2 ^ 6 - 1 from rfl, Nat.and_two_pow_sub_one_eq_mod]
  refine congrArg some (Prod.ext (congrArg nI ?_) rfl)
  omega
