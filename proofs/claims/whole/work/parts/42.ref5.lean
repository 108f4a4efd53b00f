/-! THE REFERENCE: laws -/
def fsO (vl : Nat → Nat) : List Cl → Option (Nat × Nat)
  | [] => none
  | c :: l => if evC vl c = true then some (c.1, c.2.1) else fsO vl l
theorem fstC_eq (vl : Nat → Nat) : ∀ l : List Cl, fstC vl l = match fsO vl l with | none => -1 | some q => nI (100 * q.1 + q.2) := by
  intro l
  induction l with
  | nil => rfl
  | cons c l ih =>
    unfold fstC fsO
    by_cases h : evC vl c = true
    · rw [if_pos h, if_pos h]
    · rw [if_neg h, if_neg h, ih]
theorem fsO_ok (vl : Nat → Nat) : ∀ (l : List Cl) (q : Nat × Nat), (∀ c ∈ l, clOk c) → fsO vl l = some q → q.1 < 5 ∧ q.2 < 100 := by
  intro l
  induction l with
  | nil => intro q _ h; cases h
  | cons c l ih =>
    intro q hc h
    unfold fsO at h
    split at h
    · cases h
      have := hc c List.mem_cons_self
      exact ⟨this.1, this.2.1⟩
    · exact ih q (fun x hx => hc x (List.mem_cons_of_mem _ hx)) h
/-- the place that a law says: kind 2 at, 3 by, else off -/
def placeN (P pipe : Nat) (q : Nat × Nat) : Nat := if q.1 = 2 then min q.2 (P - 1) else if q.1 = 3 then min (pipe + q.2) (P - 1) else min (pipe - q.2) (P - 1)
def sayO (s : Nat → Int32) (cl : List Cl) (l t : Nat) : Option Nat := match fsO (valT s (5 + l) t) cl with
  | none => none
  | some q => some (placeN (sN s 0) (tPipe s t) q)
def sayI (s : Nat → Int32) (cl : List Cl) (l t : Nat) : Int32 := match sayO s cl l t with
  | none => -5
  | some p => nI p
def hasB (s : Nat → Int32) (cl : List Cl) (l t : Nat) : Bool := match sayO s cl l t with
  | none => true
  | some p => decide (dist p (tSaid s t) ≤ nearN s l)
def fitN (s : Nat → Int32) (cl : List Cl) (l : Nat) (set : Int32) : Nat := smN (fun t => if bt set t && hasB s cl l t then 1 else 0) (sN s 1)
/-- the first from i on -/
def fromN (P : Nat → Bool) : Nat → Nat → Option Nat
  | 0, _ => none
  | d + 1, i => if P i = true then some i else fromN P d (i + 1)
def oI (x : Option Nat) : Int32 := match x with
  | none => -5
  | some p => nI p
theorem placeN_lt {P : Nat} (hP : 0 < P) (pipe : Nat) (q : Nat × Nat) : placeN P pipe q < P := by
  unfold placeN
  repeat' split
  all_goals omega
theorem sayO_lt {s : Nat → Int32} (hs : sOk s) (cl : List Cl) (l t : Nat) {p : Nat} (h : sayO s cl l t = some p) : p < sN s 0 := by
  have hp := hs.2.1
  unfold sayO at h
  split at h
  · cases h
  · cases h
    exact placeN_lt (by omega) _ _
section REF5
variable {m : Nat} {o : MO} {c : MC} {B : HSt}
theorem X12_kept (hs : sOk o.1) {x : Nat} (hx : x < 2 ^ 30) : f_X12_kept (hM m o c B) m (nI x) = some (nI (min x (sN o.1 0 - 1)), hM m o c B) := by
  have hp := hs.2.1
  unfold f_X12_kept
  rw [if_pos (nI_pos' (by omega)), mR_1, ob, mA_0, ob, hs.1 0 (by omega)]
  by_cases h : x < sN o.1 0
  · rw [if_pos (nI_lt h (by omega)), show min x (sN o.1 0 - 1) = x by omega]
  · rw [if_neg (nI_nlt (Nat.not_lt.mp h) (by omega)), ob, mA_0, ob, hs.1 0 (by omega), show (1 : Int32) = nI 1 from rfl, nI_subN (by omega), show min x (sN o.1 0 - 1) = sN o.1 0 - 1 by omega]
theorem X12_keptS (hs : sOk o.1) {x y : Nat} (hx : x < 2 ^ 29) (hy : y < 2 ^ 29) : f_X12_kept (hM m o c B) m (nI x - nI y) = some (nI (min (x - y) (sN o.1 0 - 1)), hM m o c B) := by
  have hp := hs.2.1
  by_cases h : y ≤ x
  · rw [nI_subN h, X12_kept hs (by omega)]
  · unfold f_X12_kept
    rw [if_neg (sub_neg_lt (by omega) (by omega)), show min (x - y) (sN o.1 0 - 1) = 0 by omega]
    rfl
theorem X12_saysBy (hs : sOk o.1) {l t : Nat} (hl : l < 5) (ht : t < sN o.1 1) {cl : List Cl} (hx : TxtS o.1 (5 + l) cl) : ∃ c', f_X12_saysBy (hM m o c B) m (nI l) (nI t) = some (sayI o.1 cl l t, hM m o c' B) := by
  have hp := hs.2.1
  have hn := hs.2.2.1
  obtain ⟨c', h1, -, -, h2⟩ := X12_looks (m := m) (c := c) (B := B) hs (show 5 + l < 10 by omega) ht hx
  obtain ⟨-, -, -, ep, -, -, -, -, -, hp4, -⟩ := hs.2.2.2.2.2.2 t ht
  refine ⟨c', ?_⟩
  have e5 : (5 : Int32) + nI l = nI (5 + l) := nI_add 5 l
  unfold f_X12_saysBy sayI sayO
  rw [hM_C, if_pos rfl, e5, h1, ob, mI_12, ob, h2, fstC_eq]
  cases hf : fsO (valT o.1 (5 + l) t) cl with
  | none =>
    simp only []
    rw [if_pos trivial]
  | some q =>
    obtain ⟨q1, q2⟩ := fsO_ok _ cl q (fun c hc => hx.2.2.2.2 c hc) hf
    simp only []
    have ed : nI (100 * q.1 + q.2) / 100 = nI q.1 := by
      have := pk_div (a := 100 * q.1 + q.2) (d := 100) (by omega) (by omega) (by omega)
      rw [show (100 * q.1 + q.2) / 100 = q.1 by omega] at this
      exact this
    have er : nI (100 * q.1 + q.2) - nI (100 * q.1 + q.2) / 100 * 100 = nI q.2 := by
      have := pk_rem (a := 100 * q.1 + q.2) (d := 100) (by omega) (by omega) (by omega)
      rw [show (100 * q.1 + q.2) % 100 = q.2 by omega] at this
      exact this
    rw [if_neg (nI_m1 (by omega)), ob, ob, er, ed, mR_1, ob, mA_s m o c' B (i := 220 + nI t) (k := 220 + t) (nI_add 220 t) (by omega), ep]
    simp only [ob, hM_C, if_true, X12_kept hs (show q.2 < 2 ^ 30 by omega), bd2_some, nI_add, X12_kept hs (show tPipe o.1 t + q.2 < 2 ^ 30 by omega), X12_keptS hs (show tPipe o.1 t < 2 ^ 29 by omega) (show q.2 < 2 ^ 29 by omega)]
    unfold placeN
    by_cases h2 : q.1 = 2
    · rw [if_pos h2, if_pos (by rw [h2]; rfl)]
    rw [if_neg h2, if_neg (show ¬ nI q.1 = 2 from fun z => h2 ((nI_eq (b := 2) (by omega) (by omega)).mp z))]
    by_cases h3 : q.1 = 3
    · rw [if_pos h3, if_pos (by rw [h3]; rfl)]
    rw [if_neg h3, if_neg (show ¬ nI q.1 = 3 from fun z => h3 ((nI_eq (b := 3) (by omega) (by omega)).mp z)), mA_s m o c' B (i := 220 + nI t) (k := 220 + t) (nI_add 220 t) (by omega), ep, ob, X12_keptS hs (by omega) (by omega), bd2_some]
theorem X12_says (hs : sOk o.1) {tx : Nat → List Cl} (hx : txOk o.1 tx) (l t : Int32) : ∃ c', f_X12_says (hM m o c B) m l t = some (if isN l (sN o.1 3) = true ∧ isN t (sN o.1 1) = true then sayI o.1 (tx (5 + nN l)) (nN l) (nN t) else -1, hM m o c' B) := by
  have hn := hs.2.2.1
  have hn3 := hs.2.2.2.2.1
  unfold f_X12_says
  rw [hM_C, if_pos rfl, X12_isLaw hs, bd2_some, bI_if]
  by_cases h1 : ¬ isN l (sN o.1 3) = true
  · exact ⟨c, by rw [if_neg h1, if_neg (fun q => h1 q.1)]⟩
  replace h1 := Decidable.not_not.mp h1
  rw [if_pos h1, hM_C, if_pos rfl, X12_isTry hs, bd2_some, bI_if]
  by_cases h2 : ¬ isN t (sN o.1 1) = true
  · exact ⟨c, by rw [if_neg h2, if_neg (fun q => h2 q.2)]⟩
  replace h2 := Decidable.not_not.mp h2
  have hc : isN l (sN o.1 3) = true ∧ isN t (sN o.1 1) = true := ⟨h1, h2⟩
  rw [if_pos h2, if_pos hc]
  obtain ⟨l, hl, rfl⟩ := isN_of (by omega) h1
  obtain ⟨t, ht, rfl⟩ := isN_of (by omega) h2
  obtain ⟨c1, g1⟩ := X12_saysBy (m := m) (c := c) (B := B) hs (show l < 5 by omega) ht (hx.2 l hl).1
  exact ⟨c1, by rw [nN_nI (by omega), nN_nI (by omega), hM_C, if_pos rfl, g1, bd2_some]⟩
theorem nI_m5 {b : Nat} (h : b < 2 ^ 31) : ¬ nI b = -5 := fun q => by
  have h2 : (nI b).toInt = -5 := by rw [q]; rfl
  rw [nI_toInt h] at h2
  omega
theorem X12_has (hs : sOk o.1) {l t : Nat} (hl : l < 5) (ht : t < sN o.1 1) {cl : List Cl} (hx : TxtS o.1 (5 + l) cl) (hn : o.1 (320 + l) = nI (nearN o.1 l) ∧ nearN o.1 l < 100) : ∃ c', f_X12_has (hM m o c B) m (nI l) (nI t) = some (bI (hasB o.1 cl l t), hM m o c' B) := by
  have hp := hs.2.1
  have hn1 := hs.2.2.1
  obtain ⟨c1, g1⟩ := X12_saysBy (m := m) (c := c) (B := B) hs hl ht hx
  obtain ⟨-, -, -, -, es, -, -, -, -, -, hts, -⟩ := hs.2.2.2.2.2.2 t ht
  refine ⟨c1, ?_⟩
  unfold f_X12_has hasB
  rw [hM_C, if_pos rfl, g1, bd2_some]
  unfold sayI
  cases h : sayO o.1 cl l t with
  | none =>
    simp only []
    rw [if_pos trivial]
    rfl
  | some p =>
    have hpl := sayO_lt hs cl l t h
    simp only []
    rw [if_neg (nI_m5 (by omega)), mR_1, ob, mA_s m o c1 B (i := 250 + nI t) (k := 250 + t) (nI_add 250 t) (by omega), es, ob, X12_size _ (by omega) (by omega), bd2_some, mR_1, ob, mA_s m o c1 B (i := 320 + nI l) (k := 320 + l) (nI_add 320 l) (by omega), hn.1, ob]
    have hd : dist p (tSaid o.1 t) < 100 := dist_lt (by omega) (by omega)
    by_cases hc : dist p (tSaid o.1 t) ≤ nearN o.1 l
    · rw [if_neg (nI_nlt hc (by omega)), decide_eq_true hc]; rfl
    · rw [if_pos (nI_lt (by omega) (by omega)), decide_eq_false hc]; rfl
theorem X12_cannot (hs : sOk o.1) {tx : Nat → List Cl} (hx : txOk o.1 tx) (l : Int32) : ∃ c', f_X12_cannot (hM m o c B) m l = some (if isN l (sN o.1 3) = true then oI (fromN (fun t => !hasB o.1 (tx (5 + nN l)) (nN l) t) (sN o.1 1) 0) else -1, hM m o c' B) := by
  have hn := hs.2.2.1
  have hn3 := hs.2.2.2.2.1
  unfold f_X12_cannot
  rw [hM_C, if_pos rfl, X12_isLaw hs, bd2_some, bI_if]
  by_cases h1 : ¬ isN l (sN o.1 3) = true
  · exact ⟨c, by rw [if_neg h1, if_neg h1]⟩
  replace h1 := Decidable.not_not.mp h1
  rw [if_pos h1, if_pos h1]
  obtain ⟨l, hl, rfl⟩ := isN_of (by omega) h1
  rw [nN_nI (by omega)]
  obtain ⟨x1, x2, x3⟩ := hx.2 l hl
  generalize tx (5 + l) = cl at *
  have L : ∀ (d i f : Nat) (c : MC), i + d = sN o.1 1 → d < f → ∃ c', f_X12_cannot_L12 m (nI l) f_X12_cannot_K39 f (nI i) (hM m o c B) = some (oI (fromN (fun t => !hasB o.1 cl l t) d i), hM m o c' B) := by
    intro d
    induction d with
    | zero =>
      intro i f c hi hf
      obtain ⟨f, rfl⟩ : ∃ g, f = g + 1 := ⟨f - 1, by omega⟩
      refine ⟨c, ?_⟩
      rw [f_X12_cannot_L12]
      unfold f_X12_cannot_B12
      rw [mR_1, ob, mA_1, ob, hs.1 1 (by omega), if_pos (nI_le (by omega) (by omega))]
      rfl
    | succ d ih =>
      intro i f c hi hf
      obtain ⟨f, rfl⟩ : ∃ g, f = g + 1 := ⟨f - 1, by omega⟩
      obtain ⟨c2, g2⟩ := X12_has (m := m) (c := c) (B := B) hs (show l < 5 by omega) (show i < sN o.1 1 by omega) x1 ⟨x2, x3⟩
      obtain ⟨c3, g3⟩ := ih (i + 1) f c2 (by omega) (by omega)
      refine ⟨if hasB o.1 cl l i = true then c3 else c2, ?_⟩
      rw [f_X12_cannot_L12]
      unfold f_X12_cannot_B12
      rw [mR_1, ob, mA_1, ob, hs.1 1 (by omega), if_neg (nI_ge (by omega) (by omega)), hM_C, if_pos rfl, g2, bd2_some, bI_if, nI_1, g3]
      rw [fromN]
      cases hasB o.1 cl l i
      · simp [oI]
      · simp
  exact L (sN o.1 1) 0 FU c (by omega) (by show _ < 100000; omega)
theorem fitN_le {s : Nat → Int32} (hs : sOk s) (cl : List Cl) (l : Nat) (set : Int32) : fitN s cl l set ≤ 30 := by
  have hn := hs.2.2.1
  have : fitN s cl l set ≤ sN s 1 * 1 := smN_le (fun t ht => by
    show (if _ then _ else 0) ≤ 1
    split <;> omega)
  omega
theorem X12_fitting (hs : sOk o.1) {l : Nat} (hl : l < 5) {cl : List Cl} (hx : TxtS o.1 (5 + l) cl) (hnn : o.1 (320 + l) = nI (nearN o.1 l) ∧ nearN o.1 l < 100) (set : Int32) : ∃ c', f_X12_fitting (hM m o c B) m (nI l) set = some (nI (fitN o.1 cl l set), hM m o c' B) := by
  have hn := hs.2.2.1
  unfold f_X12_fitting
  have L : ∀ (d i f : Nat) (c : MC), i + d = sN o.1 1 → d < f → ∃ c', f_X12_fitting_L5 m (nI l) set f_X12_fitting_K50 f (nI (smN (fun t => if bt set t && hasB o.1 cl l t then 1 else 0) i)) (nI i) (hM m o c B) = some (nI (fitN o.1 cl l set), hM m o c' B) := by
    intro d
    induction d with
    | zero =>
      intro i f c hi hf
      obtain ⟨f, rfl⟩ : ∃ g, f = g + 1 := ⟨f - 1, by omega⟩
      refine ⟨c, ?_⟩
      rw [f_X12_fitting_L5]
      unfold f_X12_fitting_B5
      rw [mR_1, ob, mA_1, ob, hs.1 1 (by omega), if_pos (nI_le (by omega) (by omega)), show i = sN o.1 1 by omega]
      rfl
    | succ d ih =>
      intro i f c hi hf
      obtain ⟨f, rfl⟩ : ∃ g, f = g + 1 := ⟨f - 1, by omega⟩
      have e0 : ∀ x, nI x + 0 = nI x := fun x => nI_add x 0
      by_cases hb : bt set i = true
      · obtain ⟨c2, g2⟩ := X12_has (m := m) (c := c) (B := B) hs hl (show i < sN o.1 1 by omega) hx hnn
        obtain ⟨c3, g3⟩ := ih (i + 1) f c2 (by omega) (by omega)
        refine ⟨c3, ?_⟩
        rw [f_X12_fitting_L5]
        unfold f_X12_fitting_B5
        rw [mR_1, ob, mA_1, ob, hs.1 1 (by omega), if_neg (nI_ge (by omega) (by omega)), if_pos ((b_ask1 set (by omega)).mpr hb), hM_C, if_pos rfl, g2, bd2_some, bI_if, nI_1, nI_1, e0, ← g3]
        simp only [smN, hb, Bool.true_and]
        cases hasB o.1 cl l i <;> rfl
      · obtain ⟨c3, g3⟩ := ih (i + 1) f c (by omega) (by omega)
        refine ⟨c3, ?_⟩
        rw [f_X12_fitting_L5]
        unfold f_X12_fitting_B5
        rw [mR_1, ob, mA_1, ob, hs.1 1 (by omega), if_neg (nI_ge (by omega) (by omega)), if_neg (fun q => hb ((b_ask1 set (by omega)).mp q)), nI_1, e0, ← g3]
        simp [smN, hb]
  exact L (sN o.1 1) 0 FU c (by omega) (by show _ < 100000; omega)
theorem X12_fits (hs : sOk o.1) {tx : Nat → List Cl} (hx : txOk o.1 tx) (l set : Int32) : ∃ c', f_X12_fits (hM m o c B) m l set = some (if isN l (sN o.1 3) = true then (if isN set (2 ^ sN o.1 1) = true then nI (fitN o.1 (tx (5 + nN l)) (nN l) set) else -2) else -1, hM m o c' B) := by
  have hn3 := hs.2.2.2.2.1
  unfold f_X12_fits
  rw [hM_C, if_pos rfl, X12_isLaw hs, bd2_some, bI_if]
  by_cases h1 : ¬ isN l (sN o.1 3) = true
  · exact ⟨c, by rw [if_neg h1, if_neg h1]⟩
  replace h1 := Decidable.not_not.mp h1
  rw [if_pos h1, if_pos h1, hM_C, if_pos rfl, X12_areTries hs, bd2_some, bI_if]
  by_cases h2 : ¬ isN set (2 ^ sN o.1 1) = true
  · exact ⟨c, by rw [if_neg h2, if_neg h2]⟩
  replace h2 := Decidable.not_not.mp h2
  rw [if_pos h2, if_pos h2]
  obtain ⟨l, hl, rfl⟩ := isN_of (by omega) h1
  obtain ⟨x1, x2, x3⟩ := hx.2 l hl
  obtain ⟨c1, g1⟩ := X12_fitting (m := m) (c := c) (B := B) hs (show l < 5 by omega) x1 ⟨x2, x3⟩ set
  exact ⟨c1, by rw [nN_nI (by omega), hM_C, if_pos rfl, g1, bd2_some]⟩
def letS (s : Nat → Int32) (tx : Nat → List Cl) (set : Int32) : Int32 := bits (fun l => decide (fitN s (tx (5 + l)) l set = numS set)) (sN s 3)
theorem X12_let (hs : sOk o.1) {tx : Nat → List Cl} (hx : txOk o.1 tx) (set : Int32) : ∃ c', f_X12_let (hM m o c B) m set = some (if isN set (2 ^ sN o.1 1) = true then letS o.1 tx set else -2, hM m o c' B) := by
  have hn3 := hs.2.2.2.2.1
  unfold f_X12_let
  rw [hM_C, if_pos rfl, X12_areTries hs, bd2_some, bI_if]
  by_cases h2 : ¬ isN set (2 ^ sN o.1 1) = true
  · exact ⟨c, by rw [if_neg h2, if_neg h2]⟩
  replace h2 := Decidable.not_not.mp h2
  rw [if_pos h2, if_pos h2]
  unfold letS
  generalize hP : (fun l => decide (fitN o.1 (tx (5 + l)) l set = numS set)) = P
  have L : ∀ (d i f : Nat) (c : MC), i + d = sN o.1 3 → d < f → ∃ c', f_X12_let_L15 m set f_X12_let_K54 f (bits P i) (nI i) (hM m o c B) = some (bits P (sN o.1 3), hM m o c' B) := by
    intro d
    induction d with
    | zero =>
      intro i f c hi hf
      obtain ⟨f, rfl⟩ : ∃ g, f = g + 1 := ⟨f - 1, by omega⟩
      refine ⟨c, ?_⟩
      rw [f_X12_let_L15]
      unfold f_X12_let_B15
      rw [mR_1, ob, mA_3, ob, hs.1 3 (by omega), if_pos (nI_le (by omega) (by omega)), show i = sN o.1 3 by omega]
      rfl
    | succ d ih =>
      intro i f c hi hf
      obtain ⟨f, rfl⟩ : ∃ g, f = g + 1 := ⟨f - 1, by omega⟩
      obtain ⟨x1, x2, x3⟩ := hx.2 i (by omega)
      obtain ⟨c2, g2⟩ := X12_fitting (m := m) (c := c) (B := B) hs (show i < 5 by omega) x1 ⟨x2, x3⟩ set
      obtain ⟨c3, g3⟩ := ih (i + 1) f c2 (by omega) (by omega)
      refine ⟨c3, ?_⟩
      have q1 := fitN_le hs (tx (5 + i)) i set
      have q2 := numS_le set
      rw [f_X12_let_L15]
      unfold f_X12_let_B15
      rw [mR_1, ob, mA_3, ob, hs.1 3 (by omega), if_neg (nI_ge (by omega) (by omega)), hM_C, if_pos rfl, g2, bd2_some, X12_count, bd2_some, or_zero, nI_1, ← g3]
      have hPi : P i = decide (fitN o.1 (tx (5 + i)) i set = numS set) := by rw [← hP]
      simp only [bits, hPi]
      by_cases h : fitN o.1 (tx (5 + i)) i set = numS set
      · rw [if_pos (by rw [h]), if_pos (by simp [h])]
      · rw [if_neg (fun q => h ((nI_eq (by omega) (by omega)).mp q)), if_neg (by simp [h])]
  exact L (sN o.1 3) 0 FU c (by omega) (by show _ < 100000; omega)
end REF5
