/-! THE REFERENCE: excuses, papers -/
def excN (s : Nat → Int32) (hits : Int32) (what : Int32) : Nat := smN (fun t => if bt hits t && (decide (what = 0) || decide (tExc s t ≠ 2)) then 1 else 0) (sN s 1)
def leftO (all own share : Nat) : Option Nat := fromN (fun x => decide (share * (all - x) ≤ 100 * min own (all - x))) all 0
def excI (s : Nat → Int32) (set : Int32) (hit : Nat) (what : Int32) (share : Nat) : Int32 := if what = 2 then oI (leftO (numS set) (numS (hitS s set hit)) share) else nI (excN s (hitS s set hit) what)
def papI (s : Nat → Int32) (tx : Nat → List Cl) (a b : Nat) (what : Int32) : Int32 :=
  if what = 2 then pasS s (tx a) a ^^^ pasS s (tx b) b else if what = 0 then cntS s (tx a) a ^^^ cntS s (tx b) b else hitS s (cntS s (tx a) a &&& cntS s (tx b) b) (hitN s a) ^^^ hitS s (cntS s (tx a) a &&& cntS s (tx b) b) (hitN s b)
section REF6
variable {m : Nat} {o : MO} {c : MC} {B : HSt}
theorem X12_left {all own share : Nat} (h1 : all ≤ 30) (h2 : own ≤ 30) (h3 : share ≤ 100) (S : HSt) : ∀ (d i f : Nat), i + d = all → d < f → f_X12_excuses_L158 (nI share) (nI all) (nI own) f_X12_excuses_K206 f (nI i) S = some (oI (fromN (fun x => decide (share * (all - x) ≤ 100 * min own (all - x))) d i), S) := by
  intro d
  induction d with
  | zero =>
    intro i f hi hf
    obtain ⟨f, rfl⟩ : ∃ g, f = g + 1 := ⟨f - 1, by omega⟩
    rw [f_X12_excuses_L158]
    unfold f_X12_excuses_B158
    rw [if_pos (nI_le (by omega) (by omega))]
    rfl
  | succ d ih =>
    intro i f hi hf
    obtain ⟨f, rfl⟩ : ∃ g, f = g + 1 := ⟨f - 1, by omega⟩
    rw [f_X12_excuses_L158]
    unfold f_X12_excuses_B158 f_X12_excuses_J188
    have e100 : (100 : Int32) = nI 100 := rfl
    have hm : share * (all - i) ≤ 100 * 30 := Nat.mul_le_mul h3 (by omega)
    rw [if_neg (nI_ge (by omega) (by omega)), nI_subN (show i ≤ all by omega), e100, pk_mul, pk_mul, pk_mul, nI_1, fromN, ih (i + 1) f (by omega) (by omega)]
    by_cases h : all - i ≤ own
    · rw [if_pos (nI_le h (by omega)), show min own (all - i) = all - i by omega]
      by_cases h2 : share * (all - i) ≤ 100 * (all - i)
      · rw [if_neg (nI_nlt h2 (by omega)), if_pos (decide_eq_true h2)]; rfl
      · rw [if_pos (nI_lt (by omega) (by omega)), if_neg (by simp [h2])]
    · rw [if_neg (nI_ge (by omega) (by omega)), show min own (all - i) = own by omega]
      by_cases h2 : share * (all - i) ≤ 100 * own
      · rw [if_neg (nI_nlt h2 (by omega)), if_pos (decide_eq_true h2)]; rfl
      · rw [if_pos (nI_lt (by omega) (by omega)), if_neg (by simp [h2])]
theorem X12_excuses (hs : sOk o.1) {tx : Nat → List Cl} (hx : txOk o.1 tx) (a man what share : Int32) : ∃ c', f_X12_excuses (hM m o c B) m a man what share = some (if isN a (sN o.1 2) = true ∧ isN man 6 = true ∧ isN what 3 = true then (if isN share 101 = true then excI o.1 (manS o.1 (cntS o.1 (tx (nN a)) (nN a)) (nN man)) (hitN o.1 (nN a)) what (nN share) else -2) else -1, hM m o c' B) := by
  have hp := hs.2.1
  have hn := hs.2.2.1
  have hn2 := hs.2.2.2.1
  unfold f_X12_excuses
  rw [hM_C, if_pos rfl, X12_isPlan hs, bd2_some, bI_if]
  by_cases h1 : ¬ isN a (sN o.1 2) = true
  · exact ⟨c, by rw [if_neg h1, if_neg (fun q => h1 q.1)]⟩
  replace h1 := Decidable.not_not.mp h1
  rw [if_pos h1, X12_isMan, bd2_some, bI_if]
  by_cases h2 : ¬ isN man 6 = true
  · exact ⟨c, by rw [if_neg h2, if_neg (fun q => h2 q.2.1)]⟩
  replace h2 := Decidable.not_not.mp h2
  rw [if_pos h2, X12_inN what 3 (by omega) (by decide), bd2_some, bI_if]
  by_cases h3 : ¬ isN what 3 = true
  · exact ⟨c, by rw [if_neg h3, if_neg (fun q => h3 q.2.2)]⟩
  replace h3 := Decidable.not_not.mp h3
  have hc : isN a (sN o.1 2) = true ∧ isN man 6 = true ∧ isN what 3 = true := ⟨h1, h2, h3⟩
  rw [if_pos h3, if_pos hc, X12_inN share 101 (by omega) (by decide), bd2_some, bI_if]
  by_cases h4 : ¬ isN share 101 = true
  · exact ⟨c, by rw [if_neg h4, if_neg h4]⟩
  replace h4 := Decidable.not_not.mp h4
  rw [if_pos h4, if_pos h4]
  obtain ⟨a, ha, rfl⟩ := isN_of (by omega) h1
  obtain ⟨man, hm, rfl⟩ := isN_of (by omega) h2
  obtain ⟨share, hsh, rfl⟩ := isN_of (by omega) h4
  obtain ⟨w, hw, hwe⟩ := isN_of (by omega) h3
  obtain ⟨x1, eh, hh, -⟩ := hx.1 a ha
  obtain ⟨c1, g1⟩ := X12_counted (m := m) (c := c) (B := B) hs (show a < 10 by omega) x1
  refine ⟨c1, ?_⟩
  rw [nN_nI (by omega), nN_nI (by omega), nN_nI (by omega), hM_C, if_pos rfl, g1, bd2_some, hM_C, if_pos rfl, X12_manS hs _ hm, bd2_some]
  generalize manS o.1 (cntS o.1 (tx a) a) man = set
  rw [mR_1, ob, mA_s m o c1 B (i := 310 + nI a) (k := 310 + a) (nI_add 310 a) (by omega), eh, ob, hM_C, if_pos rfl, X12_hitsN hs _ (by omega), bd2_some]
  unfold excI
  generalize hitS o.1 set (hitN o.1 a) = hits
  have L : ∀ (d i f : Nat), i + d = sN o.1 1 → d < f → f_X12_excuses_L76 m what hits (f_X12_excuses_K133 what (nI share) set hits) f (nI (smN (fun t => if bt hits t && (decide (what = 0) || decide (tExc o.1 t ≠ 2)) then 1 else 0) i)) (nI i) (hM m o c1 B) = f_X12_excuses_K133 what (nI share) set hits (nI (excN o.1 hits what)) (hM m o c1 B) := by
    intro d
    induction d with
    | zero =>
      intro i f hi hf
      obtain ⟨f, rfl⟩ : ∃ g, f = g + 1 := ⟨f - 1, by omega⟩
      rw [f_X12_excuses_L76]
      unfold f_X12_excuses_B76
      rw [mR_1, ob, mA_1, ob, hs.1 1 (by omega), if_pos (nI_le (by omega) (by omega)), show i = sN o.1 1 by omega]
      rfl
    | succ d ih =>
      intro i f hi hf
      obtain ⟨f, rfl⟩ : ∃ g, f = g + 1 := ⟨f - 1, by omega⟩
      obtain ⟨-, -, -, -, -, ex, -, -, -, -, -, hex⟩ := hs.2.2.2.2.2.2 i (by omega)
      have e0 : ∀ x, nI x + 0 = nI x := fun x => nI_add x 0
      rw [f_X12_excuses_L76]
      unfold f_X12_excuses_B76
      rw [mR_1, ob, mA_1, ob, hs.1 1 (by omega), if_neg (nI_ge (by omega) (by omega)), nI_1, nI_1, e0, ob, mA_s m o c1 B (i := 280 + nI i) (k := 280 + i) (nI_add 280 i) (by omega), ex, ob, ← ih (i + 1) f (by omega) (by omega)]
      by_cases hb : bt hits i = true
      · rw [if_pos ((b_ask1 hits (by omega)).mpr hb)]
        by_cases h0 : what = 0
        · rw [if_pos h0]
          simp [smN, hb, h0]
        · rw [if_neg h0]
          by_cases h2 : tExc o.1 i = 2
          · rw [if_pos (show nI (tExc o.1 i) = 2 by rw [h2]; rfl)]
            simp [smN, hb, h0, h2]
          · rw [if_neg (show ¬ nI (tExc o.1 i) = 2 from fun q => h2 ((nI_eq (b := 2) (by omega) (by omega)).mp q))]
            simp [smN, hb, h0, h2]
      · rw [if_neg (fun q => hb ((b_ask1 hits (by omega)).mp q))]
        simp [smN, hb]
  have L0 := L (sN o.1 1) 0 FU (by omega) (by show _ < 100000; omega)
  rw [show nI (smN (fun t => if bt hits t && (decide (what = 0) || decide (tExc o.1 t ≠ 2)) then 1 else 0) 0) = 0 from rfl, show nI 0 = (0 : Int32) from rfl] at L0
  rw [L0]
  unfold f_X12_excuses_K133
  by_cases h2 : what = 2
  · rw [if_pos h2, h2, if_pos (by decide), X12_count, bd2_some, X12_count, bd2_some]
    exact X12_left (numS_le _) (numS_le _) (by omega) _ (numS set) 0 FU (by omega) (by have := numS_le set; show _ < 100000; omega)
  · rw [if_neg h2]
    have h5 : ¬ (2 : Int32) ≤ what := by
      rw [hwe]
      refine nI_ge (b := 2) (a := w) ?_ (by omega)
      have : w ≠ 2 := fun q => h2 (by rw [hwe, q]; rfl)
      omega
    rw [if_neg h5]
theorem X12_papers (hs : sOk o.1) {tx : Nat → List Cl} (hx : txOk o.1 tx) (a b what : Int32) : ∃ c', f_X12_papers (hM m o c B) m a b what = some (if isN a (sN o.1 2) = true ∧ isN b (sN o.1 2) = true ∧ isN what 3 = true then papI o.1 tx (nN a) (nN b) what else -1, hM m o c' B) := by
  have hp := hs.2.1
  have hn := hs.2.2.1
  have hn2 := hs.2.2.2.1
  unfold f_X12_papers
  rw [hM_C, if_pos rfl, X12_isPlan hs, bd2_some, bI_if]
  by_cases h1 : ¬ isN a (sN o.1 2) = true
  · exact ⟨c, by rw [if_neg h1, if_neg (fun q => h1 q.1)]⟩
  replace h1 := Decidable.not_not.mp h1
  rw [if_pos h1, hM_C, if_pos rfl, X12_isPlan hs, bd2_some, bI_if]
  by_cases h2 : ¬ isN b (sN o.1 2) = true
  · exact ⟨c, by rw [if_neg h2, if_neg (fun q => h2 q.2.1)]⟩
  replace h2 := Decidable.not_not.mp h2
  rw [if_pos h2, X12_inN what 3 (by omega) (by decide), bd2_some, bI_if]
  by_cases h3 : ¬ isN what 3 = true
  · exact ⟨c, by rw [if_neg h3, if_neg (fun q => h3 q.2.2)]⟩
  replace h3 := Decidable.not_not.mp h3
  have hc : isN a (sN o.1 2) = true ∧ isN b (sN o.1 2) = true ∧ isN what 3 = true := ⟨h1, h2, h3⟩
  rw [if_pos h3, if_pos hc]
  obtain ⟨a, ha, rfl⟩ := isN_of (by omega) h1
  obtain ⟨b, hb, rfl⟩ := isN_of (by omega) h2
  rw [nN_nI (by omega), nN_nI (by omega)]
  unfold papI
  by_cases w2 : what = 2
  · obtain ⟨c1, g1⟩ := X12_passing (m := m) (c := c) (B := B) hs hx ha
    obtain ⟨c2, g2⟩ := X12_passing (m := m) (c := c1) (B := B) hs hx hb
    exact ⟨c2, by rw [if_pos w2, if_pos w2, hM_C, if_pos rfl, g1, bd2_some, hM_C, if_pos rfl, g2, bd2_some]⟩
  obtain ⟨x1, eh, hh, -⟩ := hx.1 a ha
  obtain ⟨y1, eh2, hh2, -⟩ := hx.1 b hb
  obtain ⟨c1, g1⟩ := X12_counted (m := m) (c := c) (B := B) hs (show a < 10 by omega) x1
  obtain ⟨c2, g2⟩ := X12_counted (m := m) (c := c1) (B := B) hs (show b < 10 by omega) y1
  refine ⟨c2, ?_⟩
  rw [if_neg w2, if_neg w2, hM_C, if_pos rfl, g1, bd2_some, hM_C, if_pos rfl, g2, bd2_some]
  by_cases w0 : what = 0
  · rw [if_pos w0, if_pos w0]
  rw [if_neg w0, if_neg w0, mR_1, ob, mA_s m o c2 B (i := 310 + nI a) (k := 310 + a) (nI_add 310 a) (by omega), eh, ob, hM_C, if_pos rfl, X12_hitsN hs _ (by omega), bd2_some, mR_1, ob, mA_s m o c2 B (i := 310 + nI b) (k := 310 + b) (nI_add 310 b) (by omega), eh2, ob, hM_C, if_pos rfl, X12_hitsN hs _ (by omega), bd2_some]
end REF6
