/-! THE CLASS: tries in the heap, small methods -/
/-- a kind's class -/
def kcN (kd : Nat) : Nat := if kd = 0 then 9 else if kd = 1 then 2 else if kd = 2 then 0 else if kd = 3 then 5 else if kd = 4 then 3 else if kd = 5 then 1 else 10
theorem kcN_kin (kd : Nat) : hKin (kcN kd) = true := by
  unfold kcN
  repeat' split
  all_goals rfl
/-- a try's fields -/
def tyF (q : Nat) (s : Nat → Int32) (t : Nat) : List Value := [.ref q, .int (nI t), .int (nI (tMan s t)), .int (nI (tDay s t)), .int (nI (tKind s t)), .int (nI (tPipe s t)), .int (nI (tSaid s t)), .int (nI (tNear s t)), .int (nI (tExc s t))]
def TA (n : Nat) (s : Nat → Int32) (B : HSt) (t a : Nat) : Prop := n + 73 ≤ a ∧ a < B.2 ∧ B.1 a = some (.inr (kcN (tKind s t), tyF (n + 10) s t))
/-- counts and tries of the class are those of s -/
def KR (n : Nat) (s : Nat → Int32) (k : KK) (B : HSt) : Prop := k.1 0 = s 0 ∧ k.1 2 = s 1 ∧ k.1 5 = s 2 ∧ k.1 7 = s 3 ∧ ∀ t, t < sN s 1 → ∃ a, kTr k t = some a ∧ TA n s B t a
theorem abs_nI {a b : Nat} (ha : a < 2 ^ 30) (hb : b < 2 ^ 30) : (if 0 ≤ nI a - nI b then nI a - nI b else 0 - (nI a - nI b)) = nI (dist a b) := by
  rw [← size_nI ha hb]
  by_cases h : 0 ≤ nI a - nI b
  · rw [if_pos h, if_pos h]
  · rw [if_neg h, if_neg h, Int32.zero_sub]
section CLS1
variable {n : Nat} {ρ : Nat → Nat} {s : Nat → Int32} {k : KK} {B : HSt}
theorem TA_I {t a j : Nat} {v : Int32} (h : TA n s B t a) (hf : (tyF (n + 10) s t)[j]? = some (.int v)) : gIT (hK n ρ k B) a j = some v := by
  obtain ⟨h1, h2, h3⟩ := h
  unfold gIT
  rw [hK_out n ρ k B (Or.inr (by omega)), h3]
  simp only [kcN_kin, if_true, hf]
theorem tyI_1 {t a : Nat} (h : TA n s B t a) : gIT (hK n ρ k B) a 1 = some (nI t) := TA_I h rfl
theorem tyI_2 {t a : Nat} (h : TA n s B t a) : gIT (hK n ρ k B) a 2 = some (nI (tMan s t)) := TA_I h rfl
theorem tyI_3 {t a : Nat} (h : TA n s B t a) : gIT (hK n ρ k B) a 3 = some (nI (tDay s t)) := TA_I h rfl
theorem tyI_4 {t a : Nat} (h : TA n s B t a) : gIT (hK n ρ k B) a 4 = some (nI (tKind s t)) := TA_I h rfl
theorem tyI_5 {t a : Nat} (h : TA n s B t a) : gIT (hK n ρ k B) a 5 = some (nI (tPipe s t)) := TA_I h rfl
theorem tyI_6 {t a : Nat} (h : TA n s B t a) : gIT (hK n ρ k B) a 6 = some (nI (tSaid s t)) := TA_I h rfl
theorem tyI_7 {t a : Nat} (h : TA n s B t a) : gIT (hK n ρ k B) a 7 = some (nI (tNear s t)) := TA_I h rfl
theorem tyI_8 {t a : Nat} (h : TA n s B t a) : gIT (hK n ρ k B) a 8 = some (nI (tExc s t)) := TA_I h rfl
theorem isN_false {x : Int32} {N : Nat} (hN : N < 2 ^ 31) (h : ¬ isN x N = true) : x < 0 ∨ (¬ x < 0 ∧ nI N ≤ x) := by
  by_cases h0 : x < 0
  · exact Or.inl h0
  · refine Or.inr ⟨h0, Int32.not_lt.mp (fun q => h (decide_eq_true ⟨Int32.not_lt.mp h0, q⟩))⟩
theorem X11_tryN (hs : sOk s) (hk : KR n s k B) {t a : Nat} (ht : t < sN s 1) (ha : kTr k t = some a) : f_X11_tryAt (hK n ρ k B) n (nI t) = some (some a, hK n ρ k B) := by
  have hn : sN s 1 ≤ 30 := hs.2.2.1
  have e1 : k.1 2 = nI (sN s 1) := hk.2.1.trans (hs.1 1 (by omega))
  unfold f_X11_tryAt
  rw [if_neg (nI_pos (by omega)), KI_2, ob, e1, if_neg (nI_ge ht (by omega)), KR_1, ob, KN_1, ob, if_neg (show ¬ (30 : Int32) ≤ nI t from nI_ge (b := 30) (by omega) (by omega)), ob, KA_1 n ρ k B (j := t) rfl (by omega), ob, ha, oC_some]
theorem X11_tryX (hs : sOk s) (hk : KR n s k B) {x : Int32} (h : ¬ isN x (sN s 1) = true) : f_X11_tryAt (hK n ρ k B) n x = some (none, hK n ρ k B) := by
  have hn : sN s 1 ≤ 30 := hs.2.2.1
  have e1 : k.1 2 = nI (sN s 1) := hk.2.1.trans (hs.1 1 (by omega))
  unfold f_X11_tryAt
  rcases isN_false (by omega) h with h0 | ⟨h0, h1⟩
  · rw [if_pos h0]
  · rw [if_neg h0, KI_2, ob, e1, if_pos h1]
theorem X11_planN (hs : sOk s) (hk : KR n s k B) {p : Nat} (hp : p < sN s 2) : f_X11_planAt (hK n ρ k B) n (nI p) = some (some (txA n (2 * p)), hK n ρ k B) := by
  have hn : sN s 2 ≤ 5 := hs.2.2.2.1
  have e1 : k.1 5 = nI (sN s 2) := hk.2.2.1.trans (hs.1 2 (by omega))
  unfold f_X11_planAt
  rw [if_neg (nI_pos (by omega)), KI_5, ob, e1, if_neg (nI_ge hp (by omega)), KR_4, ob, KN_4, ob, if_neg (show ¬ (5 : Int32) ≤ nI p from nI_ge (b := 5) (by omega) (by omega)), ob, KA_4 n ρ k B (j := p) rfl (by omega), ob, oC_some]
theorem X11_planX (hs : sOk s) (hk : KR n s k B) {x : Int32} (h : ¬ isN x (sN s 2) = true) : f_X11_planAt (hK n ρ k B) n x = some (none, hK n ρ k B) := by
  have hn : sN s 2 ≤ 5 := hs.2.2.2.1
  have e1 : k.1 5 = nI (sN s 2) := hk.2.2.1.trans (hs.1 2 (by omega))
  unfold f_X11_planAt
  rcases isN_false (by omega) h with h0 | ⟨h0, h1⟩
  · rw [if_pos h0]
  · rw [if_neg h0, KI_5, ob, e1, if_pos h1]
theorem X11_lawN (hs : sOk s) (hk : KR n s k B) {p : Nat} (hp : p < sN s 3) : f_X11_lawAt (hK n ρ k B) n (nI p) = some (some (txA n (2 * p + 1)), hK n ρ k B) := by
  have hn : sN s 3 ≤ 5 := hs.2.2.2.2.1
  have e1 : k.1 7 = nI (sN s 3) := hk.2.2.2.1.trans (hs.1 3 (by omega))
  unfold f_X11_lawAt
  rw [if_neg (nI_pos (by omega)), KI_7, ob, e1, if_neg (nI_ge hp (by omega)), KR_6, ob, KN_5, ob, if_neg (show ¬ (5 : Int32) ≤ nI p from nI_ge (b := 5) (by omega) (by omega)), ob, KA_5 n ρ k B (j := p) rfl (by omega), ob, oC_some]
theorem X11_lawX (hs : sOk s) (hk : KR n s k B) {x : Int32} (h : ¬ isN x (sN s 3) = true) : f_X11_lawAt (hK n ρ k B) n x = some (none, hK n ρ k B) := by
  have hn : sN s 3 ≤ 5 := hs.2.2.2.2.1
  have e1 : k.1 7 = nI (sN s 3) := hk.2.2.2.1.trans (hs.1 3 (by omega))
  unfold f_X11_lawAt
  rcases isN_false (by omega) h with h0 | ⟨h0, h1⟩
  · rw [if_pos h0]
  · rw [if_neg h0, KI_7, ob, e1, if_pos h1]
theorem isN_split (x : Int32) {N : Nat} (hN : N < 2 ^ 31) {α : Type} (f : Int32 → α) : (if x < 0 then f 0 else if nI N ≤ x then f 0 else f 1) = f (bI (isN x N)) := by
  by_cases h : isN x N = true
  · obtain ⟨j, hj, rfl⟩ := isN_of hN h
    rw [if_neg (nI_pos (by omega)), if_neg (nI_ge hj hN), h]
    rfl
  · rcases isN_false hN h with h0 | ⟨h0, h1⟩
    · rw [if_pos h0]; simp [bI, h]
    · rw [if_neg h0, if_pos h1]; simp [bI, h]
theorem isN_split2 (x : Int32) {N : Nat} (hN : N + 1 < 2 ^ 31) {α : Type} (f : Int32 → α) : (if x < 0 then f 0 else if nI N < x then f 0 else f 1) = f (bI (isN x (N + 1))) := by
  rw [← isN_split x hN f]
  by_cases h0 : x < 0
  · rw [if_pos h0, if_pos h0]
  · rw [if_neg h0, if_neg h0]
    obtain ⟨j, hj, rfl⟩ := nI_of h0
    by_cases h : N < j
    · rw [if_pos (nI_lt h hj), if_pos (nI_le (by omega) hj)]
    · rw [if_neg (nI_nlt (by omega) (by omega)), if_neg (nI_ge (by omega) (by omega))]
theorem X11_isMan (S : HSt) (x : Int32) : f_X11_isMan S x = some (bI (isN x 6), S) := isN_split x (N := 6) (by omega) (fun v => some (v, S))
theorem X11_isKind (S : HSt) (x : Int32) : f_X11_isKind S x = some (bI (isN x 7), S) := isN_split x (N := 7) (by omega) (fun v => some (v, S))
theorem X11_isHitNumber (S : HSt) (x : Int32) : f_X11_isHitNumber S x = some (bI (isN x 10), S) := isN_split2 x (N := 9) (by omega) (fun v => some (v, S))
theorem X11_isPercent (S : HSt) (x : Int32) : f_X11_isPercent S x = some (bI (isN x 101), S) := isN_split2 x (N := 100) (by omega) (fun v => some (v, S))
theorem X11_isPlace (hs : sOk s) (hk : KR n s k B) (x : Int32) : f_X11_isPlace (hK n ρ k B) n x = some (bI (isN x (sN s 0)), hK n ρ k B) := by
  have hp := hs.2.1
  unfold f_X11_isPlace
  rw [KI_0, ob, hk.1, hs.1 0 (by omega)]
  exact isN_split x (N := sN s 0) (by omega) (fun v => some (v, hK n ρ k B))
theorem isN_shr (x : Int32) {m : Nat} (hm : m ≤ 30) : (x >>> (nI m &&& 31) = 0) ↔ isN x (2 ^ m) = true := by
  have hp : 2 ^ m ≤ 2 ^ 30 := Nat.pow_le_pow_right (by omega) hm
  have e : (x >>> (nI m &&& 31)).toInt = x.toInt >>> m := pk_shr x (nI m &&& 31) m (s_l m (by omega))
  have e2 : x.toInt >>> m = x.toInt / (2 ^ m : Nat) := Int.shiftRight_eq_div_pow _ _
  have hpos : (0 : Int) < (2 ^ m : Nat) := by exact_mod_cast Nat.two_pow_pos m
  constructor
  · intro h
    rw [h, e2] at e
    have e : x.toInt / ((2 ^ m : Nat) : Int) = 0 := e.symm
    have h1 := Int.mul_ediv_add_emod x.toInt ((2 ^ m : Nat) : Int)
    rw [e, Int.mul_zero, Int.zero_add] at h1
    have h2 := Int.emod_nonneg x.toInt (Int.ne_of_gt hpos)
    have h3 := Int.emod_lt_of_pos x.toInt hpos
    refine decide_eq_true ⟨?_, ?_⟩
    · rw [Int32.le_iff_toInt_le]
      show (0 : Int) ≤ _
      omega
    · rw [Int32.lt_iff_toInt_lt, nI_toInt (by omega)]
      omega
  · intro h
    obtain ⟨j, hj, rfl⟩ := isN_of (by omega) h
    rw [pk_shrN (by omega) (nI m &&& 31) m (s_l m (by omega)), Nat.div_eq_of_lt hj]
    rfl
theorem X11_isSet (hs : sOk s) (hk : KR n s k B) (x : Int32) : f_X11_isSet (hK n ρ k B) n x = some (bI (isN x (2 ^ sN s 1)), hK n ρ k B) := by
  have hn : sN s 1 ≤ 30 := hs.2.2.1
  unfold f_X11_isSet
  rw [KI_2, ob, hk.2.1, hs.1 1 (by omega)]
  by_cases h : isN x (2 ^ sN s 1) = true
  · rw [if_pos ((isN_shr x hn).mpr h), h]; rfl
  · rw [if_neg (fun q => h ((isN_shr x hn).mp q))]; simp [bI, h]
/-- one taken for a kind k -/
def undB (kd a : Nat) : Bool := decide (a = 0) || decide (a = kd) || (decide (a = 2) && (decide (kd = 4) || decide (kd = 5))) || (decide (a = 3) && decide (kd = 6))
theorem kab_at : ∀ i, i < 7 → kab (nI i) = some (([-1, 0, 0, 0, 2, 2, 3] : List Int32).getD i 0) := by decide +kernel
theorem und_st {a u i : Nat} (ha : a < 7) (hu : u < 7) (hi : i < 7) (f : Nat) (S : HSt) : f_X11_isKindOrUnder_L4 (nI a) f_X11_isKindOrUnder_K41 (f + 1) (nI u) (nI i) S = if u = a then some (1, S) else (kab (nI u)).bind fun v => f_X11_isKindOrUnder_L4 (nI a) f_X11_isKindOrUnder_K41 f v (nI (i + 1)) S := by
  rw [f_X11_isKindOrUnder_L4]
  unfold f_X11_isKindOrUnder_B4
  rw [if_neg (show ¬ (7 : Int32) ≤ nI i from nI_ge (b := 7) hi (by omega)), if_neg (nI_pos (by omega)), if_neg (show ¬ (7 : Int32) ≤ nI u from nI_ge (b := 7) hu (by omega)), nI_1]
  by_cases h : u = a
  · rw [if_pos (by rw [h]), if_pos h]
  · rw [if_neg (fun q => h ((nI_eq (by omega) (by omega)).mp q)), if_neg h]
theorem und_neg {a i : Nat} (hi : i < 7) (f : Nat) (S : HSt) : f_X11_isKindOrUnder_L4 (nI a) f_X11_isKindOrUnder_K41 (f + 1) (-1) (nI i) S = some (0, S) := by
  rw [f_X11_isKindOrUnder_L4]
  unfold f_X11_isKindOrUnder_B4
  rw [if_neg (show ¬ (7 : Int32) ≤ nI i from nI_ge (b := 7) hi (by omega)), if_pos (by decide)]
  rfl
theorem und_0 {a i : Nat} (ha : a < 7) (hi : i < 6) (f : Nat) (S : HSt) : f_X11_isKindOrUnder_L4 (nI a) f_X11_isKindOrUnder_K41 (f + 2) 0 (nI i) S = some (bI (decide (a = 0)), S) := by
  have e := und_st (u := 0) ha (by omega) (show i < 7 by omega) (f + 1) S
  rw [show nI 0 = (0 : Int32) from rfl] at e
  rw [e, show kab 0 = some (-1) from kab_at 0 (by omega), ob, und_neg (by omega)]
  by_cases h : a = 0
  · rw [if_pos h.symm, h]; rfl
  · rw [if_neg (fun q => h q.symm)]; simp [bI, h]
theorem und_1 {a u i up : Nat} (ha : a < 7) (hu : u < 7) (hi : i < 5) (f : Nat) (S : HSt) (hup : kab (nI u) = some 0) : f_X11_isKindOrUnder_L4 (nI a) f_X11_isKindOrUnder_K41 (f + 3) (nI u) (nI i) S = some (bI (decide (u = a) || decide (a = 0)), S) := by
  rw [und_st ha hu (by omega), hup, ob, und_0 ha (by omega)]
  by_cases h : u = a
  · rw [if_pos h]; simp [h, bI]
  · rw [if_neg h]; simp [h]
theorem und_2 {a u v i : Nat} (ha : a < 7) (hu : u < 7) (hv : v < 7) (hi : i < 4) (f : Nat) (S : HSt) (hup : kab (nI u) = some (nI v)) (hup2 : kab (nI v) = some 0) : f_X11_isKindOrUnder_L4 (nI a) f_X11_isKindOrUnder_K41 (f + 4) (nI u) (nI i) S = some (bI (decide (u = a) || (decide (v = a) || decide (a = 0))), S) := by
  rw [und_st ha hu (by omega), hup, ob, und_1 (up := 0) ha hv (by omega) _ _ hup2]
  by_cases h : u = a
  · rw [if_pos h]; simp [h, bI]
  · rw [if_neg h]; simp [h]
theorem X11_under (ρ : Nat → Nat) {kd a : Nat} (hk : kd < 7) (ha : a < 7) (S : HSt) : f_X11_isKindOrUnder ρ S (nI kd) (nI a) = some (bI (undB kd a), S) := by
  unfold f_X11_isKindOrUnder
  show f_X11_isKindOrUnder_L4 (nI a) f_X11_isKindOrUnder_K41 (99996 + 4) (nI kd) (nI 0) S = _
  rcases (show kd = 0 ∨ (kd = 1 ∨ kd = 2 ∨ kd = 3) ∨ (kd = 4 ∨ kd = 5) ∨ kd = 6 by omega) with h | h | h | h
  · subst h
    have e := und_0 (i := 0) ha (by omega) 99998 S
    rw [show nI 0 = (0 : Int32) from rfl] at *
    rw [e]
    refine congrArg some (Prod.ext (congrArg bI ?_) rfl)
    unfold undB
    by_cases h : a = 0 <;> by_cases h2 : a = 2 <;> by_cases h3 : a = 3 <;> simp [h, h2, h3]
  · rw [und_1 (up := 0) ha hk (by omega) 99997 S (by rcases h with h | h | h <;> subst h <;> exact kab_at _ (by omega))]
    refine congrArg some (Prod.ext (congrArg bI ?_) rfl)
    unfold undB
    rcases h with h | h | h <;> subst h <;> rcases (show a = 0 ∨ a = 1 ∨ a = 2 ∨ a = 3 ∨ a = 4 ∨ a = 5 ∨ a = 6 by omega) with h | h | h | h | h | h | h <;> subst h <;> rfl
  · rw [und_2 (v := 2) ha hk (by omega) (by omega) 99996 S (by rcases h with h | h <;> subst h <;> exact kab_at _ (by omega)) (kab_at 2 (by omega))]
    refine congrArg some (Prod.ext (congrArg bI ?_) rfl)
    unfold undB
    rcases h with h | h <;> subst h <;> rcases (show a = 0 ∨ a = 1 ∨ a = 2 ∨ a = 3 ∨ a = 4 ∨ a = 5 ∨ a = 6 by omega) with h | h | h | h | h | h | h <;> subst h <;> rfl
  · subst h
    rw [und_2 (v := 3) ha hk (by omega) (by omega) 99996 S (kab_at 6 (by omega)) (kab_at 3 (by omega))]
    refine congrArg some (Prod.ext (congrArg bI ?_) rfl)
    unfold undB
    rcases (show a = 0 ∨ a = 1 ∨ a = 2 ∨ a = 3 ∨ a = 4 ∨ a = 5 ∨ a = 6 by omega) with h | h | h | h | h | h | h <;> subst h <;> rfl

theorem X11_bitsOfMan (hs : sOk s) (hk : KR n s k B) {man : Nat} (hm : man < 6) : f_X11_bitsOfMan (hK n ρ k B) n (nI man) = some (bits (fun t => decide (tMan s t = man)) (sN s 1), hK n ρ k B) := by
  have hn : sN s 1 ≤ 30 := hs.2.2.1
  have hp := hs.2.1
  have e1 : k.1 2 = nI (sN s 1) := hk.2.1.trans (hs.1 1 (by omega))
  have e0 : k.1 0 = nI (sN s 0) := hk.1.trans (hs.1 0 (by omega))
  unfold f_X11_bitsOfMan
  have L : ∀ (d i f : Nat), i + d = sN s 1 → d < f → f_X11_bitsOfMan_L4 n (nI man) f_X11_bitsOfMan_K45 f (bits (fun t => decide (tMan s t = man)) i) (nI i) (hK n ρ k B) = some (bits (fun t => decide (tMan s t = man)) (sN s 1), hK n ρ k B) := by
    intro d
    induction d with
    | zero =>
      intro i f hi hf
      obtain ⟨f, rfl⟩ : ∃ g, f = g + 1 := ⟨f - 1, by omega⟩
      rw [f_X11_bitsOfMan_L4]
      unfold f_X11_bitsOfMan_B4
      rw [KI_2, ob, e1, if_pos (nI_le (by omega) (by omega)), show i = sN s 1 by omega]
      rfl
    | succ d ih =>
      intro i f hi hf
      obtain ⟨f, rfl⟩ : ∃ g, f = g + 1 := ⟨f - 1, by omega⟩
      obtain ⟨a, ha, hT⟩ := hk.2.2.2.2 i (by omega)
      obtain ⟨-, -, -, -, -, -, g1, g2, g3, g4, g5, g6⟩ := hs.2.2.2.2.2.2 i (by omega)
      rw [f_X11_bitsOfMan_L4]
      unfold f_X11_bitsOfMan_B4
      rw [KI_2, ob, e1, if_neg (nI_ge (by omega) (by omega)), hK_C, if_pos rfl, X11_tryN hs hk (show i < sN s 1 by omega) ha, bd2_some, oC_some, nI_1]
      have ih1 := ih (i + 1) f (by omega) (by omega)
      rw [tyI_2 hT, ob, ← ih1]
      by_cases h : tMan s i = man
      · rw [if_pos (by rw [h])]; simp [bits, h]
      · rw [if_neg (fun q => h ((nI_eq (by omega) (by omega)).mp q))]; simp [bits, h]
  exact L (sN s 1) 0 FU (by omega) (by show sN s 1 < 100000; omega)

theorem X11_bitsNoFartherThan (hs : sOk s) (hk : KR n s k B) {hit : Nat} (hh : hit < 2 ^ 20) : f_X11_bitsNoFartherThan (hK n ρ k B) n (nI hit) = some (bits (fun t => decide (tNear s t ≤ hit)) (sN s 1), hK n ρ k B) := by
  have hn : sN s 1 ≤ 30 := hs.2.2.1
  have hp := hs.2.1
  have e1 : k.1 2 = nI (sN s 1) := hk.2.1.trans (hs.1 1 (by omega))
  have e0 : k.1 0 = nI (sN s 0) := hk.1.trans (hs.1 0 (by omega))
  unfold f_X11_bitsNoFartherThan
  have L : ∀ (d i f : Nat), i + d = sN s 1 → d < f → f_X11_bitsNoFartherThan_L4 n (nI hit) f_X11_bitsNoFartherThan_K45 f (bits (fun t => decide (tNear s t ≤ hit)) i) (nI i) (hK n ρ k B) = some (bits (fun t => decide (tNear s t ≤ hit)) (sN s 1), hK n ρ k B) := by
    intro d
    induction d with
    | zero =>
      intro i f hi hf
      obtain ⟨f, rfl⟩ : ∃ g, f = g + 1 := ⟨f - 1, by omega⟩
      rw [f_X11_bitsNoFartherThan_L4]
      unfold f_X11_bitsNoFartherThan_B4
      rw [KI_2, ob, e1, if_pos (nI_le (by omega) (by omega)), show i = sN s 1 by omega]
      rfl
    | succ d ih =>
      intro i f hi hf
      obtain ⟨f, rfl⟩ : ∃ g, f = g + 1 := ⟨f - 1, by omega⟩
      obtain ⟨a, ha, hT⟩ := hk.2.2.2.2 i (by omega)
      obtain ⟨-, -, -, -, -, -, g1, g2, g3, g4, g5, g6⟩ := hs.2.2.2.2.2.2 i (by omega)
      rw [f_X11_bitsNoFartherThan_L4]
      unfold f_X11_bitsNoFartherThan_B4
      rw [KI_2, ob, e1, if_neg (nI_ge (by omega) (by omega)), hK_C, if_pos rfl, X11_tryN hs hk (show i < sN s 1 by omega) ha, bd2_some, oC_some, nI_1]
      have ih1 := ih (i + 1) f (by omega) (by omega)
      have hd : tNear s i < 100 := dist_lt (by omega) (by omega)
      rw [tyI_7 hT, ob, ← ih1]
      by_cases h : tNear s i ≤ hit
      · rw [if_neg (nI_nlt h (by omega))]; simp [bits, h]
      · rw [if_pos (nI_lt (by omega) (by omega))]; simp [bits, h]
  exact L (sN s 1) 0 FU (by omega) (by show sN s 1 < 100000; omega)

theorem X11_bitsExcusedAfter (hs : sOk s) (hk : KR n s k B)  : f_X11_bitsExcusedAfter (hK n ρ k B) n = some (bits (fun t => decide (tExc s t = 2)) (sN s 1), hK n ρ k B) := by
  have hn : sN s 1 ≤ 30 := hs.2.2.1
  have hp := hs.2.1
  have e1 : k.1 2 = nI (sN s 1) := hk.2.1.trans (hs.1 1 (by omega))
  have e0 : k.1 0 = nI (sN s 0) := hk.1.trans (hs.1 0 (by omega))
  unfold f_X11_bitsExcusedAfter
  have L : ∀ (d i f : Nat), i + d = sN s 1 → d < f → f_X11_bitsExcusedAfter_L4 n f_X11_bitsExcusedAfter_K42 f (bits (fun t => decide (tExc s t = 2)) i) (nI i) (hK n ρ k B) = some (bits (fun t => decide (tExc s t = 2)) (sN s 1), hK n ρ k B) := by
    intro d
    induction d with
    | zero =>
      intro i f hi hf
      obtain ⟨f, rfl⟩ : ∃ g, f = g + 1 := ⟨f - 1, by omega⟩
      rw [f_X11_bitsExcusedAfter_L4]
      unfold f_X11_bitsExcusedAfter_B4
      rw [KI_2, ob, e1, if_pos (nI_le (by omega) (by omega)), show i = sN s 1 by omega]
      rfl
    | succ d ih =>
      intro i f hi hf
      obtain ⟨f, rfl⟩ : ∃ g, f = g + 1 := ⟨f - 1, by omega⟩
      obtain ⟨a, ha, hT⟩ := hk.2.2.2.2 i (by omega)
      obtain ⟨-, -, -, -, -, -, g1, g2, g3, g4, g5, g6⟩ := hs.2.2.2.2.2.2 i (by omega)
      rw [f_X11_bitsExcusedAfter_L4]
      unfold f_X11_bitsExcusedAfter_B4
      rw [KI_2, ob, e1, if_neg (nI_ge (by omega) (by omega)), hK_C, if_pos rfl, X11_tryN hs hk (show i < sN s 1 by omega) ha, bd2_some, oC_some, nI_1]
      have ih1 := ih (i + 1) f (by omega) (by omega)
      rw [tyI_8 hT, ob, ← ih1]
      by_cases h : tExc s i = 2
      · rw [if_pos (by rw [h]; rfl)]; simp [bits, h]
      · rw [if_neg (show ¬ nI (tExc s i) = 2 from fun q => h ((nI_eq (b := 2) (by omega) (by omega)).mp q))]; simp [bits, h]
  exact L (sN s 1) 0 FU (by omega) (by show sN s 1 < 100000; omega)

theorem X11_sumOfNears (hs : sOk s) (hk : KR n s k B) (set : Int32) {p : Nat} (hpp : p < 2 ^ 20) : f_X11_sumOfNears (hK n ρ k B) n set (nI p) = some (nI (smN (fun t => if bt set t then dist (tPipe s t) p else 0) (sN s 1)), hK n ρ k B) := by
  have hn : sN s 1 ≤ 30 := hs.2.2.1
  have hp := hs.2.1
  have e1 : k.1 2 = nI (sN s 1) := hk.2.1.trans (hs.1 1 (by omega))
  have e0 : k.1 0 = nI (sN s 0) := hk.1.trans (hs.1 0 (by omega))
  unfold f_X11_sumOfNears
  have L : ∀ (d i f : Nat), i + d = sN s 1 → d < f → f_X11_sumOfNears_L5 n set (nI p) f_X11_sumOfNears_K56 f (nI (smN (fun t => if bt set t then dist (tPipe s t) p else 0) i)) (nI i) (hK n ρ k B) = some (nI (smN (fun t => if bt set t then dist (tPipe s t) p else 0) (sN s 1)), hK n ρ k B) := by
    intro d
    induction d with
    | zero =>
      intro i f hi hf
      obtain ⟨f, rfl⟩ : ∃ g, f = g + 1 := ⟨f - 1, by omega⟩
      rw [f_X11_sumOfNears_L5]
      unfold f_X11_sumOfNears_B5
      rw [KI_2, ob, e1, if_pos (nI_le (by omega) (by omega)), show i = sN s 1 by omega]
      rfl
    | succ d ih =>
      intro i f hi hf
      obtain ⟨f, rfl⟩ : ∃ g, f = g + 1 := ⟨f - 1, by omega⟩
      obtain ⟨a, ha, hT⟩ := hk.2.2.2.2 i (by omega)
      obtain ⟨-, -, -, -, -, -, g1, g2, g3, g4, g5, g6⟩ := hs.2.2.2.2.2.2 i (by omega)
      rw [f_X11_sumOfNears_L5]
      unfold f_X11_sumOfNears_B5
      rw [KI_2, ob, e1, if_neg (nI_ge (by omega) (by omega)), hK_C, if_pos rfl, X11_tryN hs hk (show i < sN s 1 by omega) ha, bd2_some, oC_some, nI_1]
      have ih1 := ih (i + 1) f (by omega) (by omega)
      rw [← ih1]
      by_cases hb : bt set i = true
      · rw [if_pos ((b_ask1 set (by omega)).mpr hb), tyI_5 hT, ob, abs_nI (by omega) (by omega), hqn_eq, nI_add, dist_comm]
        simp [smN, hb]
      · rw [if_neg (fun q => hb ((b_ask1 set (by omega)).mp q))]
        simp [smN, hb]
  exact L (sN s 1) 0 FU (by omega) (by show sN s 1 < 100000; omega)

theorem X11_sumOfOwnNears (hs : sOk s) (hk : KR n s k B) (set : Int32) : f_X11_sumOfOwnNears (hK n ρ k B) n set = some (nI (smN (fun t => if bt set t then tNear s t else 0) (sN s 1)), hK n ρ k B) := by
  have hn : sN s 1 ≤ 30 := hs.2.2.1
  have hp := hs.2.1
  have e1 : k.1 2 = nI (sN s 1) := hk.2.1.trans (hs.1 1 (by omega))
  have e0 : k.1 0 = nI (sN s 0) := hk.1.trans (hs.1 0 (by omega))
  unfold f_X11_sumOfOwnNears
  have L : ∀ (d i f : Nat), i + d = sN s 1 → d < f → f_X11_sumOfOwnNears_L4 n set f_X11_sumOfOwnNears_K47 f (nI (smN (fun t => if bt set t then tNear s t else 0) i)) (nI i) (hK n ρ k B) = some (nI (smN (fun t => if bt set t then tNear s t else 0) (sN s 1)), hK n ρ k B) := by
    intro d
    induction d with
    | zero =>
      intro i f hi hf
      obtain ⟨f, rfl⟩ : ∃ g, f = g + 1 := ⟨f - 1, by omega⟩
      rw [f_X11_sumOfOwnNears_L4]
      unfold f_X11_sumOfOwnNears_B4
      rw [KI_2, ob, e1, if_pos (nI_le (by omega) (by omega)), show i = sN s 1 by omega]
      rfl
    | succ d ih =>
      intro i f hi hf
      obtain ⟨f, rfl⟩ : ∃ g, f = g + 1 := ⟨f - 1, by omega⟩
      obtain ⟨a, ha, hT⟩ := hk.2.2.2.2 i (by omega)
      obtain ⟨-, -, -, -, -, -, g1, g2, g3, g4, g5, g6⟩ := hs.2.2.2.2.2.2 i (by omega)
      rw [f_X11_sumOfOwnNears_L4]
      unfold f_X11_sumOfOwnNears_B4
      rw [KI_2, ob, e1, if_neg (nI_ge (by omega) (by omega)), hK_C, if_pos rfl, X11_tryN hs hk (show i < sN s 1 by omega) ha, bd2_some, oC_some, nI_1]
      have ih1 := ih (i + 1) f (by omega) (by omega)
      rw [← ih1]
      by_cases hb : bt set i = true
      · rw [if_pos ((b_ask1 set (by omega)).mpr hb), tyI_7 hT, ob, nI_add]
        simp [smN, hb]
      · rw [if_neg (fun q => hb ((b_ask1 set (by omega)).mp q))]
        simp [smN, hb]
  exact L (sN s 1) 0 FU (by omega) (by show sN s 1 < 100000; omega)

theorem X11_hitsBySaying (hs : sOk s) (hk : KR n s k B) (set : Int32) {hit p : Nat} (hh : hit < 2 ^ 20) (hpp : p < 2 ^ 20) : f_X11_hitsBySaying (hK n ρ k B) n set (nI hit) (nI p) = some (nI (smN (fun t => if bt set t && decide (dist (tPipe s t) p ≤ hit) then 1 else 0) (sN s 1)), hK n ρ k B) := by
  have hn : sN s 1 ≤ 30 := hs.2.2.1
  have hp := hs.2.1
  have e1 : k.1 2 = nI (sN s 1) := hk.2.1.trans (hs.1 1 (by omega))
  have e0 : k.1 0 = nI (sN s 0) := hk.1.trans (hs.1 0 (by omega))
  unfold f_X11_hitsBySaying
  have L : ∀ (d i f : Nat), i + d = sN s 1 → d < f → f_X11_hitsBySaying_L6 n set (nI hit) (nI p) f_X11_hitsBySaying_K61 f (nI (smN (fun t => if bt set t && decide (dist (tPipe s t) p ≤ hit) then 1 else 0) i)) (nI i) (hK n ρ k B) = some (nI (smN (fun t => if bt set t && decide (dist (tPipe s t) p ≤ hit) then 1 else 0) (sN s 1)), hK n ρ k B) := by
    intro d
    induction d with
    | zero =>
      intro i f hi hf
      obtain ⟨f, rfl⟩ : ∃ g, f = g + 1 := ⟨f - 1, by omega⟩
      rw [f_X11_hitsBySaying_L6]
      unfold f_X11_hitsBySaying_B6
      rw [KI_2, ob, e1, if_pos (nI_le (by omega) (by omega)), show i = sN s 1 by omega]
      rfl
    | succ d ih =>
      intro i f hi hf
      obtain ⟨f, rfl⟩ : ∃ g, f = g + 1 := ⟨f - 1, by omega⟩
      obtain ⟨a, ha, hT⟩ := hk.2.2.2.2 i (by omega)
      obtain ⟨-, -, -, -, -, -, g1, g2, g3, g4, g5, g6⟩ := hs.2.2.2.2.2.2 i (by omega)
      rw [f_X11_hitsBySaying_L6]
      unfold f_X11_hitsBySaying_B6
      rw [KI_2, ob, e1, if_neg (nI_ge (by omega) (by omega)), hK_C, if_pos rfl, X11_tryN hs hk (show i < sN s 1 by omega) ha, bd2_some, oC_some, nI_1]
      have ih1 := ih (i + 1) f (by omega) (by omega)
      rw [← ih1]
      have hd : dist p (tPipe s i) < 2 ^ 20 := dist_lt (by omega) (by omega)
      by_cases hb : bt set i = true
      · rw [if_pos ((b_ask1 set (by omega)).mpr hb), tyI_5 hT, ob, abs_nI (by omega) (by omega), hqn_eq]
        by_cases hx : dist p (tPipe s i) ≤ hit
        · rw [if_neg (nI_nlt hx (by omega)), nI_1]
          rw [dist_comm] at hx
          simp [smN, hb, hx]
        · rw [if_pos (nI_lt (by omega) (by omega))]
          rw [dist_comm] at hx
          simp [smN, hb, hx]
      · rw [if_neg (fun q => hb ((b_ask1 set (by omega)).mp q))]
        simp [smN, hb]
  exact L (sN s 1) 0 FU (by omega) (by show sN s 1 < 100000; omega)

theorem X11_saidBefore (hs : sOk s) (hk : KR n s k B) {t a : Nat} (ht : t < sN s 1) (hT : TA n s B t a) : f_X11_saidBefore (hK n ρ k B) n a = some (nI (befN s t t), hK n ρ k B) := by
  have hn : sN s 1 ≤ 30 := hs.2.2.1
  unfold f_X11_saidBefore
  rw [tyI_1 hT, ob]
  have L : ∀ (i f : Nat), i ≤ t → i < f → f_X11_saidBefore_L7 n a f_X11_saidBefore_K43 f (nI i - 1) (hK n ρ k B) = some (nI (befN s t i), hK n ρ k B) := by
    intro i
    induction i with
    | zero =>
      intro f hi hf
      obtain ⟨f, rfl⟩ : ∃ g, f = g + 1 := ⟨f - 1, by omega⟩
      rw [f_X11_saidBefore_L7]
      unfold f_X11_saidBefore_B7
      rw [if_pos (by decide)]
      rfl
    | succ i ih =>
      intro f hi hf
      obtain ⟨f, rfl⟩ : ∃ g, f = g + 1 := ⟨f - 1, by omega⟩
      obtain ⟨b, hb, hT2⟩ := hk.2.2.2.2 i (by omega)
      obtain ⟨-, -, -, -, -, -, g1, -⟩ := hs.2.2.2.2.2.2 i (by omega)
      obtain ⟨-, -, -, -, -, -, g2, -⟩ := hs.2.2.2.2.2.2 t ht
      rw [f_X11_saidBefore_L7]
      unfold f_X11_saidBefore_B7
      rw [nI_pred, if_neg (nI_pos (by omega)), hK_C, if_pos rfl, X11_tryN hs hk (show i < sN s 1 by omega) hb, bd2_some, oC_some, tyI_2 hT2, ob, tyI_2 hT, ob, tyI_6 hT2, ob, show nI i + (-1) = nI i - 1 from (Int32.sub_eq_add_neg _ _).symm, ih f (by omega) (by omega)]
      by_cases h : tMan s i = tMan s t
      · rw [if_pos (by rw [h]), befN, if_pos h]
      · rw [if_neg (fun q => h ((nI_eq (by omega) (by omega)).mp q)), befN, if_neg h]
  exact L t FU (Nat.le_refl _) (by show t < 100000; omega)
theorem pb_sum (said hit : Nat) : ∀ n, smN (fun p => if dist p said ≤ hit then 1 else 0) n = min n (said + hit + 1) - (said - hit) := by
  intro n
  induction n with
  | zero => simp [smN]
  | succ n ih =>
    rw [smN_S, ih]
    unfold dist
    by_cases h : n ≤ said
    · rw [if_pos h]
      by_cases h2 : said - n ≤ hit
      · rw [if_pos h2]; omega
      · rw [if_neg h2]; omega
    · rw [if_neg h]
      by_cases h2 : n - said ≤ hit
      · rw [if_pos h2]; omega
      · rw [if_neg h2]; omega
theorem X11_placesWithin (hs : sOk s) (hk : KR n s k B) {said hit : Nat} (h1 : said < sN s 0) (h2 : hit < 2 ^ 20) : f_X11_placesWithin (hK n ρ k B) n (nI said) (nI hit) = some (nI (pbN s said hit), hK n ρ k B) := by
  have hp := hs.2.1
  unfold f_X11_placesWithin pbN
  have e1 : nI (sN s 0) - 1 = nI (sN s 0 - 1) := pk_sub (b := 1) (by omega)
  rw [KI_0, ob, hk.1, hs.1 0 (by omega), pb_sum, e1, nI_add]
  have a1 : (if nI (said + hit) < nI (sN s 0 - 1) then nI (said + hit) else nI (sN s 0 - 1)) = nI (min (said + hit) (sN s 0 - 1)) := by
    by_cases h : said + hit < sN s 0 - 1
    · rw [if_pos (nI_lt h (by omega)), show min (said + hit) (sN s 0 - 1) = said + hit by omega]
    · rw [if_neg (nI_nlt (by omega) (by omega)), show min (said + hit) (sN s 0 - 1) = sN s 0 - 1 by omega]
  have a2 : (if 0 < nI said - nI hit then nI said - nI hit else 0) = nI (said - hit) := by
    by_cases h : hit < said
    · rw [nI_subN (by omega), if_pos (show (0 : Int32) < nI (said - hit) from nI_lt (a := 0) (b := said - hit) (by omega) (by omega))]
    · rw [show said - hit = 0 by omega]
      by_cases h3 : hit = said
      · rw [h3, nI_subN (Nat.le_refl _), Nat.sub_self]; rfl
      · have := sub_neg_lt (show hit < 2 ^ 30 by omega) (show said < hit by omega)
        rw [if_neg (fun q => this (Int32.le_of_lt q))]; rfl
  rw [a1, a2, hqn_eq, hqn_eq, nI_subN (by omega), nI_1, show min (said + hit) (sN s 0 - 1) - (said - hit) + 1 = min (sN s 0) (said + hit + 1) - (said - hit) by omega]
theorem X11_leastLeftOut (S : HSt) {all own share : Nat} (h1 : all ≤ 30) (h2 : own ≤ 30) (h3 : share ≤ 100) : f_X11_leastLeftOut S (nI all) (nI own) (nI share) = some (oI (leftO all own share), S) := by
  unfold f_X11_leastLeftOut leftO
  have L : ∀ (d i f : Nat), i + d = all → d < f → f_X11_leastLeftOut_L2 (nI all) (nI own) (nI share) f_X11_leastLeftOut_K36 f (nI i) S = some (oI (fromN (fun x => decide (share * (all - x) ≤ 100 * min own (all - x))) d i), S) := by
    intro d
    induction d with
    | zero =>
      intro i f hi hf
      obtain ⟨f, rfl⟩ : ∃ g, f = g + 1 := ⟨f - 1, by omega⟩
      rw [f_X11_leastLeftOut_L2]
      unfold f_X11_leastLeftOut_B2
      rw [if_pos (nI_le (by omega) (by omega))]
      rfl
    | succ d ih =>
      intro i f hi hf
      obtain ⟨f, rfl⟩ : ∃ g, f = g + 1 := ⟨f - 1, by omega⟩
      have hm : share * (all - i) ≤ 100 * 30 := Nat.mul_le_mul h3 (by omega)
      have a1 : (if nI (all - i) < nI own then nI (all - i) else nI own) = nI (min own (all - i)) := by
        by_cases h : all - i < own
        · rw [if_pos (nI_lt h (by omega)), show min own (all - i) = all - i by omega]
        · rw [if_neg (nI_nlt (by omega) (by omega)), show min own (all - i) = own by omega]
      rw [f_X11_leastLeftOut_L2]
      unfold f_X11_leastLeftOut_B2
      rw [if_neg (nI_ge (by omega) (by omega)), nI_subN (show i ≤ all by omega), a1, hqn_eq, show (100 : Int32) = nI 100 from rfl, pk_mul, pk_mul, nI_1, ih (i + 1) f (by omega) (by omega), fromN, Nat.mul_comm (min own (all - i)) 100]
      by_cases h : share * (all - i) ≤ 100 * min own (all - i)
      · rw [if_neg (nI_nlt h (by omega)), if_pos (decide_eq_true h)]; rfl
      · rw [if_pos (nI_lt (by omega) (by omega)), if_neg (by simp [h])]
  exact L all 0 FU (by omega) (by show all < 100000; omega)
end CLS1
