/-! THE REFERENCE'S SMALL METHODS, over its cells -/
/-- s as the law's calls leave it: counts, tries, heads of plans and laws, the tape; all of them small numbers -/
def sN (s : Nat → Int32) (k : Nat) : Nat := nN (s k)
def tMan (s : Nat → Int32) (t : Nat) : Nat := sN s (130 + t)
def tDay (s : Nat → Int32) (t : Nat) : Nat := sN s (160 + t)
def tKind (s : Nat → Int32) (t : Nat) : Nat := sN s (190 + t)
def tPipe (s : Nat → Int32) (t : Nat) : Nat := sN s (220 + t)
def tSaid (s : Nat → Int32) (t : Nat) : Nat := sN s (250 + t)
def tExc (s : Nat → Int32) (t : Nat) : Nat := sN s (280 + t)
def tNear (s : Nat → Int32) (t : Nat) : Nat := dist (tPipe s t) (tSaid s t)
/-- what is so of a try -/
def tOk (s : Nat → Int32) (t : Nat) : Prop :=
  s (130 + t) = nI (tMan s t) ∧ s (160 + t) = nI (tDay s t) ∧ s (190 + t) = nI (tKind s t) ∧ s (220 + t) = nI (tPipe s t) ∧ s (250 + t) = nI (tSaid s t) ∧ s (280 + t) = nI (tExc s t) ∧ tMan s t < 6 ∧ tDay s t < 100 ∧ tKind s t < 7 ∧ tPipe s t < sN s 0 ∧ tSaid s t < sN s 0 ∧ tExc s t < 3
def sOk (s : Nat → Int32) : Prop :=
  (∀ k, k < 5 → s k = nI (sN s k)) ∧ (2 ≤ sN s 0 ∧ sN s 0 ≤ 100) ∧ sN s 1 ≤ 30 ∧ sN s 2 ≤ 5 ∧ sN s 3 ≤ 5 ∧ sN s 4 ≤ 120 ∧ (∀ t, t < sN s 1 → tOk s t)
theorem mA_0 (m : Nat) (o : MO) (c : MC) (B : HSt) : aI (hM m o c B) (m + 1) 0 0 = some (o.1 0) := mA_s m o c B (k := 0) rfl (by omega)
theorem mA_1 (m : Nat) (o : MO) (c : MC) (B : HSt) : aI (hM m o c B) (m + 1) 0 1 = some (o.1 1) := mA_s m o c B (k := 1) rfl (by omega)
theorem mA_2 (m : Nat) (o : MO) (c : MC) (B : HSt) : aI (hM m o c B) (m + 1) 0 2 = some (o.1 2) := mA_s m o c B (k := 2) rfl (by omega)
theorem mA_3 (m : Nat) (o : MO) (c : MC) (B : HSt) : aI (hM m o c B) (m + 1) 0 3 = some (o.1 3) := mA_s m o c B (k := 3) rfl (by omega)
theorem mA_4 (m : Nat) (o : MO) (c : MC) (B : HSt) : aI (hM m o c B) (m + 1) 0 4 = some (o.1 4) := mA_s m o c B (k := 4) rfl (by omega)
theorem X12_in (S : HSt) (v lo hi : Int32) : f_X12_in S v lo hi = some (if lo ≤ v ∧ v ≤ hi then 1 else 0, S) := by
  unfold f_X12_in
  by_cases h1 : v < lo
  · rw [if_pos h1, if_neg (fun q => absurd h1 (Int32.not_lt.mpr q.1))]
  · rw [if_neg h1]
    by_cases h2 : hi < v
    · rw [if_pos h2, if_neg (fun q => absurd h2 (Int32.not_lt.mpr q.2))]
    · rw [if_neg h2, if_pos ⟨Int32.not_lt.mp h1, Int32.not_lt.mp h2⟩]
theorem X12_size (S : HSt) {a b : Nat} (ha : a < 2 ^ 30) (hb : b < 2 ^ 30) : f_X12_size S (nI a - nI b) = some (nI (dist a b), S) := by
  unfold f_X12_size
  rw [← size_nI ha hb]
  split <;> rfl
/-- 1 for true -/
def bI (b : Bool) : Int32 := if b then 1 else 0
theorem bI_01 (b : Bool) : bI b = 0 ∨ bI b = 1 := by cases b <;> simp [bI]
theorem bI_0 (b : Bool) : (bI b = 0) = (b = false) := by cases b <;> simp [bI]
theorem bI_1 (b : Bool) : (bI b = 1) = (b = true) := by cases b <;> simp [bI]
/-- an int is one of the first n numbers -/
def isN (x : Int32) (n : Nat) : Bool := decide (0 ≤ x ∧ x < nI n)
theorem isN_of {x : Int32} {n : Nat} (hn : n < 2 ^ 31) (h : isN x n = true) : ∃ j, j < n ∧ x = nI j := by
  have h := of_decide_eq_true h
  exact I_of hn (Int32.not_lt.mpr h.1) (Int32.not_le.mpr h.2)
theorem isN_nI {j n : Nat} (hn : n < 2 ^ 31) (h : j < n) : isN (nI j) n = true := decide_eq_true ⟨nI_pos' (by omega), nI_lt h hn⟩
theorem in_isN (x : Int32) {n : Nat} (hn : n < 2 ^ 30) : (if (0 : Int32) ≤ x ∧ x ≤ nI n - 1 then (1 : Int32) else 0) = bI (isN x n) := by
  have e : (x ≤ nI n - 1) ↔ x < nI n := by
    have h1 : (nI n).toInt = n := nI_toInt (by omega)
    have h2 : (nI n - 1).toInt = (n : Int) - 1 := by
      rw [Int32.toInt_sub, h1]
      show ((n : Int) - 1).bmod (2 ^ 32) = _
      rw [Int.bmod_eq_of_le] <;> omega
    rw [Int32.le_iff_toInt_le, Int32.lt_iff_toInt_lt, h1, h2]
    omega
  unfold isN bI
  by_cases h : (0 : Int32) ≤ x ∧ x < nI n
  · rw [if_pos ⟨h.1, e.mpr h.2⟩, decide_eq_true h, if_pos rfl]
  · rw [if_neg (fun q => h ⟨q.1, e.mp q.2⟩), decide_eq_false h]
    rfl
section REF
variable {m : Nat} {o : MO} {c : MC} {B : HSt}
theorem X12_isTry (hs : sOk o.1) (x : Int32) : f_X12_isTry (hM m o c B) m x = some (bI (isN x (sN o.1 1)), hM m o c B) := by
  unfold f_X12_isTry
  have e := hs.1 1 (by omega)
  have hb : sN o.1 1 < 2 ^ 30 := by
    have := hs.2
    omega
  simp only [mR_1, mA_1, ob, X12_in, bd2_some]
  rw [e, in_isN x hb, if_pos (bI_01 _)]
theorem X12_isPlan (hs : sOk o.1) (x : Int32) : f_X12_isPlan (hM m o c B) m x = some (bI (isN x (sN o.1 2)), hM m o c B) := by
  unfold f_X12_isPlan
  have e := hs.1 2 (by omega)
  have hb : sN o.1 2 < 2 ^ 30 := by
    have := hs.2
    omega
  simp only [mR_1, mA_2, ob, X12_in, bd2_some]
  rw [e, in_isN x hb, if_pos (bI_01 _)]
theorem X12_isLaw (hs : sOk o.1) (x : Int32) : f_X12_isLaw (hM m o c B) m x = some (bI (isN x (sN o.1 3)), hM m o c B) := by
  unfold f_X12_isLaw
  have e := hs.1 3 (by omega)
  have hb : sN o.1 3 < 2 ^ 30 := by
    have := hs.2
    omega
  simp only [mR_1, mA_3, ob, X12_in, bd2_some]
  rw [e, in_isN x hb, if_pos (bI_01 _)]
theorem X12_isPlace (hs : sOk o.1) (x : Int32) : f_X12_isPlace (hM m o c B) m x = some (bI (isN x (sN o.1 0)), hM m o c B) := by
  unfold f_X12_isPlace
  have e := hs.1 0 (by omega)
  have hb : sN o.1 0 < 2 ^ 30 := by
    have := hs.2
    omega
  simp only [mR_1, mA_0, ob, X12_in, bd2_some]
  rw [e, in_isN x hb, if_pos (bI_01 _)]
theorem X12_isMan (x : Int32) : f_X12_isMan B x = some (bI (isN x 6), B) := by
  unfold f_X12_isMan
  simp only [X12_in, bd2_some]
  have e := in_isN x (n := 6) (by omega)
  rw [show nI 6 - 1 = 5 by decide] at e
  rw [e, if_pos (bI_01 _)]
theorem X12_nearOf (hs : sOk o.1) {t : Nat} (ht : t < sN o.1 1) : f_X12_nearOf (hM m o c B) m (nI t) = some (nI (tNear o.1 t), hM m o c B) := by
  have hn : t < 30 := by
    have := hs.2
    omega
  obtain ⟨-, -, -, e1, e2, -, -, -, -, h1, h2, -⟩ := hs.2.2.2.2.2.2 t ht
  have h3 := hs.2.1.2
  unfold f_X12_nearOf
  simp only [mR_1, ob]
  rw [mA_s m o c B (i := 220 + nI t) (k := 220 + t) (nI_add 220 t) (by omega)]
  simp only [ob]
  rw [mA_s m o c B (i := 250 + nI t) (k := 250 + t) (nI_add 250 t) (by omega)]
  simp only [ob]
  rw [e1, e2, X12_size _ (by omega) (by omega)]
  rfl
theorem X12_hitsOf (hs : sOk o.1) (set hit : Int32) : f_X12_hitsOf (hM m o c B) m set hit = some (bits (fun t => bt set t && decide (nI (tNear o.1 t) ≤ hit)) (sN o.1 1), hM m o c B) := by
  have hn : sN o.1 1 ≤ 30 := hs.2.2.1
  have e1 := hs.1 1 (by omega)
  unfold f_X12_hitsOf
  have L : ∀ (d i f : Nat), i + d = sN o.1 1 → d < f → f_X12_hitsOf_L5 m set hit f_X12_hitsOf_K53 f (bits (fun t => bt set t && decide (nI (tNear o.1 t) ≤ hit)) i) (nI i) (hM m o c B) = some (bits (fun t => bt set t && decide (nI (tNear o.1 t) ≤ hit)) (sN o.1 1), hM m o c B) := by
    intro d
    induction d with
    | zero =>
      intro i f hi hf
      obtain ⟨f, rfl⟩ : ∃ g, f = g + 1 := ⟨f - 1, by omega⟩
      show f_X12_hitsOf_B5 _ _ _ _ _ _ _ _ = _
      unfold f_X12_hitsOf_B5
      simp only [mR_1, mA_1, ob]
      rw [e1, if_pos ((nI_leI (by omega) (by omega)).mpr (by omega))]
      unfold f_X12_hitsOf_K53
      rw [show i = sN o.1 1 by omega]
    | succ d ih =>
      intro i f hi hf
      obtain ⟨f, rfl⟩ : ∃ g, f = g + 1 := ⟨f - 1, by omega⟩
      show f_X12_hitsOf_B5 _ _ _ _ _ _ _ _ = _
      unfold f_X12_hitsOf_B5
      simp only [mR_1, mA_1, ob, hM_C, if_true]
      rw [e1, if_neg (fun q => by have := (nI_leI (a := sN o.1 1) (b := i) (by omega) (by omega)).mp q; omega), X12_nearOf hs (by omega), nI_1]
      have ih1 := ih (i + 1) f (by omega) (by omega)
      simp only [bd2_some, or_zero]
      rw [← ih1]
      by_cases hb : bt set i = true
      · rw [if_pos ((b_ask1 set (by omega)).mpr hb)]
        by_cases hd : nI (tNear o.1 i) ≤ hit
        · rw [if_neg (Int32.not_lt.mpr hd)]
          simp [bits, hb, hd]
        · rw [if_pos (Int32.not_le.mp hd)]
          simp [bits, hb, hd]
      · rw [if_neg (fun q => hb ((b_ask1 set (by omega)).mp q))]
        simp [bits, hb]
  exact L (sN o.1 1) 0 FU (by omega) (by show sN o.1 1 < 100000; omega)
end REF
