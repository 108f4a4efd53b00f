/-! THE REFERENCE: which tries a plan counts, who passes -/
/-- a plan's heads -/
def hitN (s : Nat → Int32) (p : Nat) : Nat := sN s (310 + p)
def needN (s : Nat → Int32) (p : Nat) : Nat := sN s (315 + p)
def nearN (s : Nat → Int32) (l : Nat) : Nat := sN s (320 + l)
/-- all texts stand in s -/
def txOk (s : Nat → Int32) (tx : Nat → List Cl) : Prop :=
  (∀ p, p < sN s 2 → TxtS s p (tx p) ∧ s (310 + p) = nI (hitN s p) ∧ hitN s p < 100 ∧ s (315 + p) = nI (needN s p) ∧ needN s p < 100) ∧
  ∀ l, l < sN s 3 → TxtS s (5 + l) (tx (5 + l)) ∧ s (320 + l) = nI (nearN s l) ∧ nearN s l < 100
/-- does a plan count a try -/
def cntB (s : Nat → Int32) (l : List Cl) (p t : Nat) : Bool := (cntC 0 l == 0 || anyC (valT s p t) 0 l) && !anyC (valT s p t) 1 l
/-- .. all that it counts; its hits; how many of a man -/
def cntS (s : Nat → Int32) (l : List Cl) (p : Nat) : Int32 := bits (cntB s l p) (sN s 1)
def hitS (s : Nat → Int32) (set : Int32) (hit : Nat) : Int32 := bits (fun t => bt set t && decide (tNear s t ≤ hit)) (sN s 1)
def manS (s : Nat → Int32) (set : Int32) (man : Nat) : Int32 := bits (fun t => bt set t && decide (tMan s t = man)) (sN s 1)
def numS (set : Int32) : Nat := smN (fun k => if bt set k then 1 else 0) 30
def pasS (s : Nat → Int32) (l : List Cl) (p : Nat) : Int32 := bits (fun man => decide (needN s p ≤ numS (manS s (hitS s (cntS s l p) (hitN s p)) man))) 6
theorem cntC_le (k : Nat) : ∀ l : List Cl, cntC k l ≤ l.length := by
  intro l
  induction l with
  | nil => exact Nat.le_refl _
  | cons c l ih =>
    unfold cntC
    simp only [List.length_cons]
    split <;> omega
theorem numS_le (set : Int32) : numS set ≤ 30 := by
  have := smN_le (f := fun k => if bt set k then 1 else 0) (k := 1) (n := 30) (fun i _ => by show (if _ then 1 else 0) ≤ 1; split <;> omega)
  unfold numS
  omega
section REF3
variable {m : Nat} {o : MO} {c : MC} {B : HSt}
theorem X12_hitsN (hs : sOk o.1) (set : Int32) {hit : Nat} (hh : hit < 2 ^ 30) : f_X12_hitsOf (hM m o c B) m set (nI hit) = some (hitS o.1 set hit, hM m o c B) := by
  rw [X12_hitsOf hs]
  unfold hitS
  refine congrArg some (Prod.ext ?_ rfl)
  refine bits_cong (fun t ht => ?_)
  obtain ⟨-, -, -, -, -, -, h1, h2, h3, h4, h5, h6⟩ := hs.2.2.2.2.2.2 t ht
  have hp := hs.2.1
  have hd : tNear o.1 t < 100 := dist_lt (by omega) (by omega)
  have e : (nI (tNear o.1 t) ≤ nI hit) = (tNear o.1 t ≤ hit) := propext (nI_leI (by omega) (by omega))
  show (bt set t && decide (nI (tNear o.1 t) ≤ nI hit)) = _
  simp only [e]
theorem X12_count (set : Int32) : f_X12_count1 B set = some (nI (numS set), B) := X12_count1 set
theorem X12_manS (hs : sOk o.1) (set : Int32) {man : Nat} (hm : man < 6) : f_X12_ofMan (hM m o c B) m set (nI man) = some (manS o.1 set man, hM m o c B) := X12_ofMan hs set hm
theorem X12_isCounted (hs : sOk o.1) {a t : Nat} (ha : a < 10) (ht : t < sN o.1 1) {l : List Cl} (hx : TxtS o.1 a l) : ∃ c', f_X12_isCounted (hM m o c B) m (nI a) (nI t) = some (bI (cntB o.1 l a t), hM m o c' B) := by
  obtain ⟨c', h1, h2, h3, -⟩ := X12_looks (m := m) (c := c) (B := B) hs ha ht hx
  refine ⟨c', ?_⟩
  have hl := hx.2.2.2.1
  have hc := cntC_le 0 l
  unfold f_X12_isCounted
  rw [hM_C, if_pos rfl, h1, ob, mR_10, ob, mA_n m o c' B (i := 0) (k := 0) rfl (by omega), h2 0 (by omega), ob, mR_11, ob, mA_h m o c' B (i := 0) (k := 0) rfl (by omega), h3 0 (by omega), ob]
  have J : f_X12_isCounted_J24 m (hM m o c' B) = some (bI (!anyC (valT o.1 a t) 1 l), hM m o c' B) := by
    unfold f_X12_isCounted_J24
    rw [mR_11, ob, mA_h m o c' B (i := 1) (k := 1) rfl (by omega), h3 1 (by omega), ob, bI_if]
    cases anyC (valT o.1 a t) 1 l <;> rfl
  rw [J, bI_if]
  unfold cntB
  by_cases h0 : cntC 0 l = 0
  · rw [if_pos (show nI (cntC 0 l) = 0 by rw [h0]; rfl), h0]
    simp
  · rw [if_neg (nI_ne0 (by omega) (by omega))]
    cases anyC (valT o.1 a t) 0 l
    · simp [h0, bI]
    · simp
theorem X12_counted (hs : sOk o.1) {a : Nat} (ha : a < 10) {l : List Cl} (hx : TxtS o.1 a l) : ∃ c', f_X12_counted (hM m o c B) m (nI a) = some (cntS o.1 l a, hM m o c' B) := by
  have hn : sN o.1 1 ≤ 30 := hs.2.2.1
  have e1 := hs.1 1 (by omega)
  unfold f_X12_counted
  have L : ∀ (d i f : Nat) (c : MC), i + d = sN o.1 1 → d < f → ∃ c', f_X12_counted_L4 m (nI a) f_X12_counted_K39 f (bits (cntB o.1 l a) i) (nI i) (hM m o c B) = some (cntS o.1 l a, hM m o c' B) := by
    intro d
    induction d with
    | zero =>
      intro i f c hi hf
      obtain ⟨f, rfl⟩ : ∃ g, f = g + 1 := ⟨f - 1, by omega⟩
      refine ⟨c, ?_⟩
      show f_X12_counted_B4 _ _ _ _ _ _ _ = _
      unfold f_X12_counted_B4
      simp only [mR_1, mA_1, ob]
      rw [e1, if_pos ((nI_leI (by omega) (by omega)).mpr (by omega))]
      unfold cntS
      unfold f_X12_counted_K39
      rw [show i = sN o.1 1 by omega]
    | succ d ih =>
      intro i f c hi hf
      obtain ⟨f, rfl⟩ : ∃ g, f = g + 1 := ⟨f - 1, by omega⟩
      obtain ⟨c1, h1⟩ := X12_isCounted (m := m) (c := c) (B := B) hs ha (show i < sN o.1 1 by omega) hx
      obtain ⟨c2, h2⟩ := ih (i + 1) f c1 (by omega) (by omega)
      refine ⟨c2, ?_⟩
      rw [← h2]
      show f_X12_counted_B4 _ _ _ _ _ _ _ = _
      unfold f_X12_counted_B4
      simp only [mR_1, mA_1, ob]
      rw [e1, if_neg (fun q => by have := (nI_leI (a := sN o.1 1) (b := i) (by omega) (by omega)).mp q; omega)]
      rw [hM_C, if_pos rfl, h1, bd2_some, nI_1, bI_if, or_zero]
      simp only [bits]
      cases cntB o.1 l a i <;> simp
  exact L (sN o.1 1) 0 FU c (by omega) (by show sN o.1 1 < 100000; omega)

theorem X12_told_0 (hs : sOk o.1) (x what : Int32) (hx : ¬ isN x (sN o.1 2) = true) : f_X12_told (hM m o c B) m x what = some (-1, hM m o c B) := by
  unfold f_X12_told
  rw [hM_C, if_pos rfl, X12_isPlan hs, bd2_some, bI_if, if_neg hx]
theorem X12_told (hs : sOk o.1) {tx : Nat → List Cl} (hx : txOk o.1 tx) {p : Nat} (hp : p < sN o.1 2) (what : Int32) : ∃ c', f_X12_told (hM m o c B) m (nI p) what = some (if what = 0 then nI (hitN o.1 p) else if what = 1 then nI (needN o.1 p) else if what = 2 then cntS o.1 (tx p) p else if what = 3 then hitS o.1 (cntS o.1 (tx p) p) (hitN o.1 p) else -1, hM m o c' B) := by
  have hn : sN o.1 2 ≤ 5 := hs.2.2.2.1
  obtain ⟨x1, x2, x3, x4, x5⟩ := hx.1 p hp
  obtain ⟨c1, h1⟩ := X12_counted (m := m) (c := c) (B := B) hs (show p < 10 by omega) x1
  unfold f_X12_told
  rw [hM_C, if_pos rfl, X12_isPlan hs, bd2_some, bI_if, if_pos (isN_nI (by omega) hp), mR_1, ob, ob, mA_s m o c B (i := 310 + nI p) (k := 310 + p) (nI_add 310 p) (by omega), x2, ob, mA_s m o c B (i := 315 + nI p) (k := 315 + p) (nI_add 315 p) (by omega), x4, ob]
  by_cases w0 : what = 0
  · exact ⟨c, by rw [if_pos w0, if_pos w0]⟩
  by_cases w1 : what = 1
  · exact ⟨c, by rw [if_neg w0, if_neg w0, if_pos w1, if_pos w1]⟩
  refine ⟨if what = 2 then c1 else if what = 3 then c1 else c, ?_⟩
  rw [if_neg w0, if_neg w0, if_neg w1, if_neg w1]
  rw [hM_C, if_pos rfl, if_pos rfl, h1, bd2_some, bd2_some]
  rw [mR_1, ob, mA_s m o c1 B (i := 310 + nI p) (k := 310 + p) (nI_add 310 p) (by omega), x2, ob, hM_C, if_pos rfl, X12_hitsN hs _ (by omega), bd2_some]
  by_cases w2 : what = 2
  · rw [if_pos w2, if_pos w2, if_pos w2]
  rw [if_neg w2, if_neg w2, if_neg w2]
  by_cases w3 : what = 3
  · rw [if_pos w3, if_pos w3, if_pos w3]
  rw [if_neg w3, if_neg w3, if_neg w3]
theorem X12_passing (hs : sOk o.1) {tx : Nat → List Cl} (hx : txOk o.1 tx) {p : Nat} (hp : p < sN o.1 2) : ∃ c', f_X12_passing (hM m o c B) m (nI p) = some (pasS o.1 (tx p) p, hM m o c' B) := by
  have hn : sN o.1 2 ≤ 5 := hs.2.2.2.1
  obtain ⟨x1, x2, x3, x4, x5⟩ := hx.1 p hp
  obtain ⟨c1, h1⟩ := X12_counted (m := m) (c := c) (B := B) hs (show p < 10 by omega) x1
  refine ⟨c1, ?_⟩
  unfold f_X12_passing
  rw [hM_C, if_pos rfl, h1, bd2_some, mR_1, ob, mA_s m o c1 B (i := 310 + nI p) (k := 310 + p) (nI_add 310 p) (by omega), x2, ob, hM_C, if_pos rfl, X12_hitsN hs _ (by omega), bd2_some]
  generalize hset : hitS o.1 (cntS o.1 (tx p) p) (hitN o.1 p) = set
  have L : ∀ (d i f : Nat), i + d = 6 → d < f → f_X12_passing_L25 m (nI p) set f_X12_passing_K72 f (bits (fun man => decide (needN o.1 p ≤ numS (manS o.1 set man))) i) (nI i) (hM m o c1 B) = some (bits (fun man => decide (needN o.1 p ≤ numS (manS o.1 set man))) 6, hM m o c1 B) := by
    intro d
    induction d with
    | zero =>
      intro i f hi hf
      obtain ⟨f, rfl⟩ : ∃ g, f = g + 1 := ⟨f - 1, by omega⟩
      show f_X12_passing_B25 _ _ _ _ _ _ _ _ = _
      unfold f_X12_passing_B25
      rw [if_pos (show (6 : Int32) ≤ nI i from (nI_leI (a := 6) (b := i) (by omega) (by omega)).mpr (by omega))]
      unfold f_X12_passing_K72
      rw [show i = 6 by omega]
    | succ d ih =>
      intro i f hi hf
      obtain ⟨f, rfl⟩ : ∃ g, f = g + 1 := ⟨f - 1, by omega⟩
      show f_X12_passing_B25 _ _ _ _ _ _ _ _ = _
      unfold f_X12_passing_B25
      have hc := numS_le (manS o.1 set i)
      rw [if_neg (show ¬ (6 : Int32) ≤ nI i from fun q => by have := (nI_leI (a := 6) (b := i) (by omega) (by omega)).mp q; omega), hM_C, if_pos rfl, X12_manS hs set (by omega), bd2_some, X12_count, bd2_some, mR_1, ob, mA_s m o c1 B (i := 315 + nI p) (k := 315 + p) (nI_add 315 p) (by omega), x4, ob, nI_1, or_zero, ← ih (i + 1) f (by omega) (by omega)]
      simp only [bits]
      by_cases hd : needN o.1 p ≤ numS (manS o.1 set i)
      · rw [if_neg (nI_nlt hd (by omega)), if_pos (by simp [hd])]
      · rw [if_pos (nI_lt (by omega) (by omega)), if_neg (by simp [hd])]
  unfold pasS
  rw [hset]
  exact L 6 0 FU (by omega) (by show 6 < 100000; omega)
theorem X12_passes_0 (hs : sOk o.1) (x : Int32) (hx : ¬ isN x (sN o.1 2) = true) : f_X12_passes (hM m o c B) m x = some (-1, hM m o c B) := by
  unfold f_X12_passes
  rw [hM_C, if_pos rfl, X12_isPlan hs, bd2_some, bI_if, if_neg hx]
theorem X12_passes (hs : sOk o.1) {tx : Nat → List Cl} (hx : txOk o.1 tx) {p : Nat} (hp : p < sN o.1 2) : ∃ c', f_X12_passes (hM m o c B) m (nI p) = some (pasS o.1 (tx p) p, hM m o c' B) := by
  have hn : sN o.1 2 ≤ 5 := hs.2.2.2.1
  obtain ⟨c1, h1⟩ := X12_passing (m := m) (c := c) (B := B) hs hx hp
  refine ⟨c1, ?_⟩
  unfold f_X12_passes
  rw [hM_C, if_pos rfl, X12_isPlan hs, bd2_some, bI_if, if_pos (isN_nI (by omega) hp), hM_C, if_pos rfl, h1, bd2_some]
end REF3
