/-! THE REFERENCE: loops over tries and places -/
def smN (f : Nat → Nat) : Nat → Nat
  | 0 => 0
  | n + 1 => smN f n + f n
theorem smN_cong {f g : Nat → Nat} : ∀ {n : Nat}, (∀ i, i < n → f i = g i) → smN f n = smN g n := by
  intro n
  induction n with
  | zero => intro _; rfl
  | succ n ih =>
    intro h
    unfold smN
    rw [h n (Nat.lt_succ_self n), ih (fun i hi => h i (Nat.lt_succ_of_lt hi))]
theorem smN_le {f : Nat → Nat} {k : Nat} : ∀ {n : Nat}, (∀ i, i < n → f i ≤ k) → smN f n ≤ n * k := by
  intro n
  induction n with
  | zero => intro _; exact Nat.zero_le _
  | succ n ih =>
    intro h
    have h1 := h n (Nat.lt_succ_self n)
    have h2 := ih (fun i hi => h i (Nat.lt_succ_of_lt hi))
    unfold smN
    rw [Nat.succ_mul]
    omega
/-- what the man of try t said in his one before: the latest k below j -/
def befN (s : Nat → Int32) (t : Nat) : Nat → Nat
  | 0 => 100
  | k + 1 => if tMan s k = tMan s t then tSaid s k else befN s t k
section REF2
variable {m : Nat} {o : MO} {c : MC} {B : HSt}
theorem X12_ofMan (hs : sOk o.1) (set : Int32) {man : Nat} (hm : man < 6) : f_X12_ofMan (hM m o c B) m set (nI man) = some (bits (fun t => bt set t && decide (tMan o.1 t = man)) (sN o.1 1), hM m o c B) := by
  have hn : sN o.1 1 ≤ 30 := hs.2.2.1
  have e1 := hs.1 1 (by omega)
  unfold f_X12_ofMan
  have L : ∀ (d i f : Nat), i + d = sN o.1 1 → d < f → f_X12_ofMan_L5 m set (nI man) f_X12_ofMan_K58 f (bits (fun t => bt set t && decide (tMan o.1 t = man)) i) (nI i) (hM m o c B) = some (bits (fun t => bt set t && decide (tMan o.1 t = man)) (sN o.1 1), hM m o c B) := by
    intro d
    induction d with
    | zero =>
      intro i f hi hf
      obtain ⟨f, rfl⟩ : ∃ g, f = g + 1 := ⟨f - 1, by omega⟩
      show f_X12_ofMan_B5 _ _ _ _ _ _ _ _ = _
      unfold f_X12_ofMan_B5
      simp only [mR_1, mA_1, ob]
      rw [e1, if_pos ((nI_leI (by omega) (by omega)).mpr (by omega))]
      unfold f_X12_ofMan_K58
      rw [show i = sN o.1 1 by omega]
    | succ d ih =>
      intro i f hi hf
      obtain ⟨f, rfl⟩ : ∃ g, f = g + 1 := ⟨f - 1, by omega⟩
      show f_X12_ofMan_B5 _ _ _ _ _ _ _ _ = _
      unfold f_X12_ofMan_B5
      simp only [mR_1, mA_1, ob]
      rw [e1, if_neg (fun q => by have := (nI_leI (a := sN o.1 1) (b := i) (by omega) (by omega)).mp q; omega)]
      have ih1 := ih (i + 1) f (by omega) (by omega)
      obtain ⟨em, -, -, -, -, -, hm1, -⟩ := hs.2.2.2.2.2.2 i (by omega)
      rw [mA_s m o c B (i := 130 + nI i) (k := 130 + i) (nI_add 130 i) (by omega), em]
      simp only [ob, or_zero, nI_1]
      rw [← ih1]
      by_cases hb : bt set i = true
      · rw [if_pos ((b_ask1 set (by omega)).mpr hb)]
        by_cases hd : tMan o.1 i = man
        · rw [if_pos (by rw [hd])]
          simp [bits, hb, hd]
        · rw [if_neg (fun q => hd ((nI_eq (by omega) (by omega)).mp q))]
          simp [bits, hb, hd]
      · rw [if_neg (fun q => hb ((b_ask1 set (by omega)).mp q))]
        simp [bits, hb]
  exact L (sN o.1 1) 0 FU (by omega) (by show sN o.1 1 < 100000; omega)

theorem X12_sumFrom (hs : sOk o.1) (set : Int32) {p : Nat} (hp : p < 2 ^ 20) : f_X12_sumFrom (hM m o c B) m set (nI p) = some (nI (smN (fun t => if bt set t then dist (tPipe o.1 t) p else 0) (sN o.1 1)), hM m o c B) := by
  have hn : sN o.1 1 ≤ 30 := hs.2.2.1
  have e1 := hs.1 1 (by omega)
  unfold f_X12_sumFrom
  have L : ∀ (d i f : Nat), i + d = sN o.1 1 → d < f → f_X12_sumFrom_L5 m set (nI p) f_X12_sumFrom_K55 f (nI (smN (fun t => if bt set t then dist (tPipe o.1 t) p else 0) i)) (nI i) (hM m o c B) = some (nI (smN (fun t => if bt set t then dist (tPipe o.1 t) p else 0) (sN o.1 1)), hM m o c B) := by
    intro d
    induction d with
    | zero =>
      intro i f hi hf
      obtain ⟨f, rfl⟩ : ∃ g, f = g + 1 := ⟨f - 1, by omega⟩
      show f_X12_sumFrom_B5 _ _ _ _ _ _ _ _ = _
      unfold f_X12_sumFrom_B5
      simp only [mR_1, mA_1, ob]
      rw [e1, if_pos ((nI_leI (by omega) (by omega)).mpr (by omega))]
      unfold f_X12_sumFrom_K55
      rw [show i = sN o.1 1 by omega]
    | succ d ih =>
      intro i f hi hf
      obtain ⟨f, rfl⟩ : ∃ g, f = g + 1 := ⟨f - 1, by omega⟩
      show f_X12_sumFrom_B5 _ _ _ _ _ _ _ _ = _
      unfold f_X12_sumFrom_B5
      simp only [mR_1, mA_1, ob]
      rw [e1, if_neg (fun q => by have := (nI_leI (a := sN o.1 1) (b := i) (by omega) (by omega)).mp q; omega)]
      have ih1 := ih (i + 1) f (by omega) (by omega)
      obtain ⟨-, -, -, ep, -, -, -, -, -, hp1, -⟩ := hs.2.2.2.2.2.2 i (by omega)
      have h3 := hs.2.1.2
      rw [mA_s m o c B (i := 220 + nI i) (k := 220 + i) (nI_add 220 i) (by omega), ep]
      simp only [ob, nI_1]
      rw [X12_size _ (by omega) (by omega)]
      simp only [bd2_some, nI_add]
      rw [← ih1]
      by_cases hb : bt set i = true
      · rw [if_pos ((b_ask1 set (by omega)).mpr hb)]
        simp [smN, hb]
      · rw [if_neg (fun q => hb ((b_ask1 set (by omega)).mp q))]
        simp [smN, hb]
  exact L (sN o.1 1) 0 FU (by omega) (by show sN o.1 1 < 100000; omega)

theorem X12_before (hs : sOk o.1) {t : Nat} (ht : t < sN o.1 1) : f_X12_before (hM m o c B) m (nI t) = some (nI (befN o.1 t t), hM m o c B) := by
  have hn : sN o.1 1 ≤ 30 := hs.2.2.1
  unfold f_X12_before
  have L : ∀ (d i f : Nat), i + d = t → d < f → f_X12_before_L5 m (nI t) f_X12_before_K54 f (nI (befN o.1 t i)) (nI i) (hM m o c B) = some (nI (befN o.1 t t), hM m o c B) := by
    intro d
    induction d with
    | zero =>
      intro i f hi hf
      obtain ⟨f, rfl⟩ : ∃ g, f = g + 1 := ⟨f - 1, by omega⟩
      show f_X12_before_B5 _ _ _ _ _ _ _ = _
      unfold f_X12_before_B5
      rw [if_pos ((nI_leI (by omega) (by omega)).mpr (by omega))]
      unfold f_X12_before_K54
      rw [show i = t by omega]
    | succ d ih =>
      intro i f hi hf
      obtain ⟨f, rfl⟩ : ∃ g, f = g + 1 := ⟨f - 1, by omega⟩
      show f_X12_before_B5 _ _ _ _ _ _ _ = _
      unfold f_X12_before_B5
      rw [if_neg (fun q => by have := (nI_leI (a := t) (b := i) (by omega) (by omega)).mp q; omega)]
      have ih1 := ih (i + 1) f (by omega) (by omega)
      obtain ⟨em, -, -, -, es, -, hm1, -⟩ := hs.2.2.2.2.2.2 i (by omega)
      obtain ⟨em2, -, -, -, -, -, hm2, -⟩ := hs.2.2.2.2.2.2 t ht
      simp only [mR_1, ob]
      rw [mA_s m o c B (i := 130 + nI i) (k := 130 + i) (nI_add 130 i) (by omega), em, mA_s m o c B (i := 130 + nI t) (k := 130 + t) (nI_add 130 t) (by omega), em2, mA_s m o c B (i := 250 + nI i) (k := 250 + i) (nI_add 250 i) (by omega), es]
      simp only [ob, nI_1]
      rw [← ih1]
      by_cases hd : tMan o.1 i = tMan o.1 t
      · rw [if_pos (by rw [hd])]
        simp [befN, hd]
      · rw [if_neg (fun q => hd ((nI_eq (by omega) (by omega)).mp q))]
        simp [befN, hd]
  exact L (t) 0 FU (by omega) (by show t < 100000; omega)

theorem X12_placesBy (hs : sOk o.1) {said hit : Nat} (h1 : said < 2 ^ 20) (h2 : hit < 2 ^ 20) : f_X12_placesBy (hM m o c B) m (nI said) (nI hit) = some (nI (smN (fun p => if dist p said ≤ hit then 1 else 0) (sN o.1 0)), hM m o c B) := by
  have hn := hs.2.1
  have e1 := hs.1 0 (by omega)
  unfold f_X12_placesBy
  have L : ∀ (d i f : Nat), i + d = sN o.1 0 → d < f → f_X12_placesBy_L5 m (nI said) (nI hit) f_X12_placesBy_K41 f (nI (smN (fun p => if dist p said ≤ hit then 1 else 0) i)) (nI i) (hM m o c B) = some (nI (smN (fun p => if dist p said ≤ hit then 1 else 0) (sN o.1 0)), hM m o c B) := by
    intro d
    induction d with
    | zero =>
      intro i f hi hf
      obtain ⟨f, rfl⟩ : ∃ g, f = g + 1 := ⟨f - 1, by omega⟩
      show f_X12_placesBy_B5 _ _ _ _ _ _ _ _ = _
      unfold f_X12_placesBy_B5
      simp only [mR_1, mA_0, ob]
      rw [e1, if_pos ((nI_leI (by omega) (by omega)).mpr (by omega))]
      unfold f_X12_placesBy_K41
      rw [show i = sN o.1 0 by omega]
    | succ d ih =>
      intro i f hi hf
      obtain ⟨f, rfl⟩ : ∃ g, f = g + 1 := ⟨f - 1, by omega⟩
      show f_X12_placesBy_B5 _ _ _ _ _ _ _ _ = _
      unfold f_X12_placesBy_B5
      simp only [mR_1, mA_0, ob]
      rw [e1, if_neg (fun q => by have := (nI_leI (a := sN o.1 0) (b := i) (by omega) (by omega)).mp q; omega)]
      have ih1 := ih (i + 1) f (by omega) (by omega)
      rw [X12_size _ (by omega) (by omega)]
      have hd : dist i said < 2 ^ 20 := dist_lt (by omega) h1
      simp only [bd2_some, nI_1]
      rw [← ih1]
      by_cases hc : dist i said ≤ hit
      · rw [if_neg (nI_nlt hc (by omega))]
        simp [smN, hc]
      · rw [if_pos (nI_lt (by omega) (by omega))]
        have e0 : nI (smN (fun p => if dist p said ≤ hit then 1 else 0) i) + 0 = nI (smN (fun p => if dist p said ≤ hit then 1 else 0) i) := nI_add _ 0
        rw [e0]
        simp [smN, hc]
  exact L (sN o.1 0) 0 FU (by omega) (by show sN o.1 0 < 100000; omega)

theorem X12_count1 (set : Int32) : f_X12_count1 (B) set = some (nI (smN (fun k => if bt set k then 1 else 0) 30), B) := by
  unfold f_X12_count1
  have L : ∀ (d i f : Nat), i + d = 30 → d < f → f_X12_count1_L4 set f_X12_count1_K24 f (nI (smN (fun k => if bt set k then 1 else 0) i)) (nI i) (B) = some (nI (smN (fun k => if bt set k then 1 else 0) 30), B) := by
    intro d
    induction d with
    | zero =>
      intro i f hi hf
      obtain ⟨f, rfl⟩ : ∃ g, f = g + 1 := ⟨f - 1, by omega⟩
      show f_X12_count1_B4 _ _ _ _ _ _ = _
      unfold f_X12_count1_B4
      rw [if_pos (show (30 : Int32) ≤ nI i from (nI_leI (a := 30) (b := i) (by omega) (by omega)).mpr (by omega))]
      unfold f_X12_count1_K24
      rw [show i = 30 by omega]
    | succ d ih =>
      intro i f hi hf
      obtain ⟨f, rfl⟩ : ∃ g, f = g + 1 := ⟨f - 1, by omega⟩
      show f_X12_count1_B4 _ _ _ _ _ _ = _
      unfold f_X12_count1_B4
      rw [if_neg (show ¬ (30 : Int32) ≤ nI i from fun q => by have := (nI_leI (a := 30) (b := i) (by omega) (by omega)).mp q; omega)]
      have ih1 := ih (i + 1) f (by omega) (by omega)
      rw [b_ask set (by omega), nI_1]
      rw [← ih1]
      by_cases hb : bt set i = true
      · rw [if_pos hb, nI_1]
        simp [smN, hb]
      · have e0 : nI (smN (fun k => if bt set k then 1 else 0) i) + 0 = nI (smN (fun k => if bt set k then 1 else 0) i) := nI_add _ 0
        rw [if_neg hb, e0]
        simp [smN, hb]
  exact L (30) 0 FU (by omega) (by show 30 < 100000; omega)

end REF2
