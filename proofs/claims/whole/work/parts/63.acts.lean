/-! BOTH: acts of kinds -/
def sayV (kd i : Nat) (x : Int32) : Int32 := if kd = 1 then x * 3 + nI i else if kd = 5 then (x + nI i) ^^^ nI i else x + nI i
def sayT (kd : Nat) : List Nat := if kd = 1 then [11, 1] else if kd = 5 then [51, 1] else [1]
def knoV (kd i p : Nat) (x : Int32) : Int32 := if kd = 6 then sayV kd i x - nI p + nI p else if kd = 2 ∨ kd = 4 ∨ kd = 5 then -(sayV kd i x - nI p) else sayV kd i x - nI p
def knoT (kd : Nat) : List Nat := if kd = 6 then 61 :: 2 :: sayT kd else if kd = 2 ∨ kd = 4 ∨ kd = 5 then 21 :: 2 :: sayT kd else 2 :: sayT kd
def telV (kd i p : Nat) (x : Int32) : Int32 := if kd = 4 then knoV kd i p (x - 1) * 2 + sayV kd i 2 else if kd = 3 ∨ kd = 6 then (knoV kd i p x * 2) ^^^ 7 else knoV kd i p x * 2
def telT (kd : Nat) : List Nat := if kd = 4 then 41 :: 3 :: (knoT kd ++ sayT kd) else if kd = 3 ∨ kd = 6 then 31 :: 3 :: knoT kd else 3 :: knoT kd
/-- a trace: kept, ran -/
abbrev TQ : Type := (Nat → Int32) × Nat
def addT (b : Nat) (q : TQ) : TQ := (upd q.1 q.2 (nI b), q.2 + 1)
def addL : List Nat → TQ → TQ
  | [], q => q
  | b :: l, q => addL l (addT b q)
theorem addL_app : ∀ (l l' : List Nat) (q : TQ), addL (l ++ l') q = addL l' (addL l q) := by
  intro l
  induction l with
  | nil => intro l' q; rfl
  | cons b l ih => intro l' q; exact ih l' (addT b q)
theorem addL_2 : ∀ (l : List Nat) (q : TQ), (addL l q).2 = q.2 + l.length := by
  intro l
  induction l with
  | nil => intro q; rfl
  | cons b l ih =>
    intro q
    show (addL l (addT b q)).2 = _
    rw [ih]
    show q.2 + 1 + l.length = q.2 + (l.length + 1)
    omega
theorem addL_eq : ∀ (l : List Nat) (f g : Nat → Int32) (r : Nat), (∀ i, i < r → f i = g i) → ∀ i, i < r + l.length → (addL l (f, r)).1 i = (addL l (g, r)).1 i := by
  intro l
  induction l with
  | nil => intro f g r h i hi; exact h i hi
  | cons b l ih =>
    intro f g r h i hi
    refine ih (upd f r (nI b)) (upd g r (nI b)) (r + 1) (fun j hj => ?_) i (by simp only [List.length_cons] at hi; omega)
    by_cases hjr : j = r
    · subst hjr; rw [pk_us, pk_us]
    · rw [pk_un hjr, pk_un hjr]; exact h j (by omega)
def oT (o : MO) (q : TQ) : MO := (o.1, o.2.1, o.2.2.1, nI q.2, q.1)
def undI (a0 a1 : Int32) : Int32 := if a1 = 0 then 1 else if a1 = a0 then 1 else if a1 = 2 then (if a0 = 4 then 1 else if a0 = 5 then 1 else if a1 = 3 then (if a0 = 6 then 1 else 0) else 0) else if a1 = 3 then (if a0 = 6 then 1 else 0) else 0
theorem und_I (S : HSt) (a0 a1 : Int32) : f_X12_isUnder S a0 a1 = some (undI a0 a1, S) := by
  unfold f_X12_isUnder f_X12_isUnder_J24 undI
  by_cases h0 : a1 = 0
  · rw [if_pos h0, if_pos h0]
  rw [if_neg h0, if_neg h0]
  by_cases h1 : a1 = a0
  · rw [if_pos h1, if_pos h1]
  rw [if_neg h1, if_neg h1]
  by_cases h2 : a1 = 2
  · rw [if_pos h2, if_pos h2]
    by_cases h4 : a0 = 4
    · rw [if_pos h4, if_pos h4]
    rw [if_neg h4, if_neg h4]
    by_cases h5 : a0 = 5
    · rw [if_pos h5, if_pos h5]
    rw [if_neg h5, if_neg h5, if_neg (by rw [h2]; decide), if_neg (by rw [h2]; decide)]
  rw [if_neg h2, if_neg h2]
  by_cases h3 : a1 = 3
  · rw [if_pos h3, if_pos h3]
    by_cases h6 : a0 = 6
    · rw [if_pos h6, if_pos h6]
    rw [if_neg h6, if_neg h6]
  rw [if_neg h3, if_neg h3]
theorem und_eq : ∀ kd, kd < 7 → ∀ a, a < 7 → undI (nI kd) (nI a) = bI (undB kd a) := by decide +kernel
section ACTM
variable {m : Nat} {o : MO} {c : MC} {B : HSt} {kd i p : Nat}
theorem X12_runs {q : TQ} (hq : q.2 < 20) (b : Nat) : f_X12_runs (hM m (oT o q) c B) m (nI b) = some (hM m (oT o (addT b q)) c B) := by
  unfold f_X12_runs
  rw [mI_16, ob, show (oT o q).2.2.2.1 = nI q.2 from rfl, if_neg (show ¬ (20 : Int32) ≤ nI q.2 from nI_ge (b := 20) hq (by omega)), mR_15, ob, ob, mS_b m (oT o q) c B (k := q.2) rfl hq, ob, mI_16, ob, mP_16, ob]
  refine congrArg some ?_
  show hM m (o.1, o.2.1, o.2.2.1, nI q.2 + 1, upd q.1 q.2 (nI b)) c B = hM m (o.1, o.2.1, o.2.2.1, nI (q.2 + 1), upd q.1 q.2 (nI b)) c B
  rw [nI_1]
def actC (c : MC) (kd i p : Nat) : Prop := c.1 17 = nI kd ∧ c.1 18 = nI i ∧ c.1 19 = nI p
theorem X12_plainSays {q : TQ} (hq : q.2 < 20) (hc : actC c kd i p) (x : Int32) : f_X12_plainSays (hM m (oT o q) c B) m x = some (x + nI i, hM m (oT o (addT 1 q)) c B) := by
  unfold f_X12_plainSays
  rw [hM_C, if_pos rfl, show (1 : Int32) = nI 1 from rfl, X12_runs hq, ob, mI_18, ob, hc.2.1]
theorem eqN {a b : Nat} (ha : a < 2 ^ 31) (hb : b < 2 ^ 31) : (nI a = nI b) = (a = b) := propext (nI_eq ha hb)
theorem X12_saysActs {q : TQ} (hq : q.2 < 19) (hk : kd < 7) (hc : actC c kd i p) (x : Int32) : f_X12_saysActs (hM m (oT o q) c B) m x = some (sayV kd i x, hM m (oT o (addL (sayT kd) q)) c B) := by
  unfold f_X12_saysActs
  rw [mI_17, ob, hc.1, hM_C, if_pos rfl, show (11 : Int32) = nI 11 from rfl, X12_runs (by omega), ob, hM_C, if_pos rfl, X12_plainSays (by show q.2 + 1 < 20; omega) hc, bd2_some, ob, if_pos rfl, show (51 : Int32) = nI 51 from rfl, X12_runs (by omega), ob, hM_C, if_pos rfl, X12_plainSays (by show q.2 + 1 < 20; omega) hc, bd2_some, mI_18, ob, hc.2.1, if_pos rfl, X12_plainSays (by omega) hc, bd2_some]
  unfold sayV sayT
  by_cases h1 : kd = 1
  · rw [if_pos (by rw [h1]; rfl), if_pos h1, if_pos h1]; rfl
  rw [if_neg (show ¬ nI kd = 1 from fun z => h1 ((nI_eq (b := 1) (by omega) (by omega)).mp z)), if_neg h1, if_neg h1]
  by_cases h5 : kd = 5
  · rw [if_pos (by rw [h5]; rfl), if_pos h5, if_pos h5]; rfl
  rw [if_neg (show ¬ nI kd = 5 from fun z => h5 ((nI_eq (b := 5) (by omega) (by omega)).mp z)), if_neg h5, if_neg h5]
  rfl
theorem sayT_len (kd : Nat) : (sayT kd).length ≤ 2 := by
  unfold sayT
  repeat' split
  all_goals decide
theorem knoT_len (kd : Nat) : (knoT kd).length ≤ 4 := by
  have := sayT_len kd
  unfold knoT
  repeat' split
  all_goals simp only [List.length_cons]; omega
theorem X12_plainKnows {q : TQ} (hq : q.2 < 18) (hk : kd < 7) (hc : actC c kd i p) (x : Int32) : f_X12_plainKnows (hM m (oT o q) c B) m x = some (sayV kd i x - nI p, hM m (oT o (addL (2 :: sayT kd) q)) c B) := by
  unfold f_X12_plainKnows
  rw [hM_C, if_pos rfl, show (2 : Int32) = nI 2 from rfl, X12_runs (by omega), ob, hM_C, if_pos rfl, X12_saysActs (by show q.2 + 1 < 19; omega) hk hc, bd2_some, mI_19, ob, hc.2.2]
  rfl
theorem X12_isUnder (S : HSt) (hk : kd < 7) {a : Nat} (ha : a < 7) : f_X12_isUnder S (nI kd) (nI a) = some (bI (undB kd a), S) := by
  rw [← und_eq kd hk a ha, und_I]
theorem X12_knowsActs {q : TQ} (hq : q.2 < 17) (hk : kd < 7) (hc : actC c kd i p) (x : Int32) : f_X12_knowsActs (hM m (oT o q) c B) m x = some (knoV kd i p x, hM m (oT o (addL (knoT kd) q)) c B) := by
  unfold f_X12_knowsActs
  have hp0 := X12_plainKnows (m := m) (o := o) (B := B) (show q.2 < 18 by omega) hk hc x
  have hp1 := fun b : Nat => X12_plainKnows (m := m) (o := o) (B := B) (q := addT b q) (show q.2 + 1 < 18 by omega) hk hc x
  rw [mI_17, ob, hc.1, hM_C, if_pos rfl, show (61 : Int32) = nI 61 from rfl, X12_runs (by omega), ob, hM_C, if_pos rfl, hp1 61, bd2_some, mI_19, ob, hc.2.2, ob, show (2 : Int32) = nI 2 from rfl, X12_isUnder _ hk (by omega), bd2_some, bI_if]
  unfold knoV knoT
  by_cases h6 : kd = 6
  · rw [if_pos (by rw [h6]; rfl), if_pos h6, if_pos h6]; rfl
  rw [if_neg (show ¬ nI kd = 6 from fun z => h6 ((nI_eq (b := 6) (by omega) (by omega)).mp z)), if_neg h6, if_neg h6, hM_C, if_pos rfl, if_pos rfl, show (21 : Int32) = nI 21 from rfl, X12_runs (by omega), ob, hM_C, if_pos rfl, hp1 21, bd2_some, hp0, bd2_some]
  have hu : (undB kd 2 = true) ↔ (kd = 2 ∨ kd = 4 ∨ kd = 5) := by
    unfold undB
    rcases (show kd = 0 ∨ kd = 1 ∨ kd = 2 ∨ kd = 3 ∨ kd = 4 ∨ kd = 5 ∨ kd = 6 by omega) with rfl | rfl | rfl | rfl | rfl | rfl | rfl <;> decide
  by_cases h : kd = 2 ∨ kd = 4 ∨ kd = 5
  · rw [if_pos (hu.mpr h), if_pos h, if_pos h]; rfl
  · rw [if_neg (fun z => h (hu.mp z)), if_neg h, if_neg h]
theorem X12_plainTells {q : TQ} (hq : q.2 < 16) (hk : kd < 7) (hc : actC c kd i p) (x : Int32) : f_X12_plainTells (hM m (oT o q) c B) m x = some (knoV kd i p x * 2, hM m (oT o (addL (3 :: knoT kd) q)) c B) := by
  unfold f_X12_plainTells
  rw [hM_C, if_pos rfl, show (3 : Int32) = nI 3 from rfl, X12_runs (by omega), ob, hM_C, if_pos rfl, X12_knowsActs (by show q.2 + 1 < 17; omega) hk hc, bd2_some]
  rfl
theorem X12_tellsActs {q : TQ} (hq : q.2 < 10) (hk : kd < 7) (hc : actC c kd i p) (x : Int32) : f_X12_tellsActs (hM m (oT o q) c B) m x = some (telV kd i p x, hM m (oT o (addL (telT kd) q)) c B) := by
  unfold f_X12_tellsActs
  have hp0 := X12_plainTells (m := m) (o := o) (B := B) (show q.2 < 16 by omega) hk hc x
  have hp1 := fun b : Nat => fun y : Int32 => X12_plainTells (m := m) (o := o) (B := B) (q := addT b q) (show q.2 + 1 < 16 by omega) hk hc y
  have hs1 := X12_saysActs (m := m) (o := o) (B := B) (q := addL (3 :: knoT kd) (addT 41 q)) (by rw [addL_2]; have := knoT_len kd; simp only [List.length_cons]; show q.2 + 1 + _ < 19; omega) hk hc 2
  unfold telV telT
  by_cases h4 : kd = 4
  · rw [mI_17, ob, hc.1, if_pos (show nI kd = 4 by rw [h4]; rfl), hM_C, if_pos rfl, show (41 : Int32) = nI 41 from rfl, X12_runs (by omega), ob, hM_C, if_pos rfl, hp1 41, bd2_some, hM_C, if_pos rfl, hs1, bd2_some, if_pos h4, if_pos h4]
    rw [← addL_app]
    rfl
  have hu : (undB kd 3 = true) ↔ (kd = 3 ∨ kd = 6) := by
    unfold undB
    rcases (show kd = 0 ∨ kd = 1 ∨ kd = 2 ∨ kd = 3 ∨ kd = 4 ∨ kd = 5 ∨ kd = 6 by omega) with rfl | rfl | rfl | rfl | rfl | rfl | rfl <;> decide
  rw [mI_17, ob, hc.1, if_neg (show ¬ nI kd = 4 from fun z => h4 ((nI_eq (b := 4) (by omega) (by omega)).mp z)), if_neg h4, if_neg h4, ob, show (3 : Int32) = nI 3 from rfl, X12_isUnder _ hk (by omega), bd2_some, bI_if, hM_C, if_pos rfl, if_pos rfl, show (31 : Int32) = nI 31 from rfl, X12_runs (by omega), ob, hM_C, if_pos rfl, hp1 31, bd2_some, hp0, bd2_some]
  by_cases h : kd = 3 ∨ kd = 6
  · rw [if_pos (hu.mpr h), if_pos h, if_pos h]; rfl
  · rw [if_neg (fun z => h (hu.mp z)), if_neg h, if_neg h]
end ACTM
