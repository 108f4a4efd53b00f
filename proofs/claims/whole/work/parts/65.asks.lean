/-! BOTH: of, as, trace, count -/
def ofI (s : Nat → Int32) (t w : Nat) : Nat := if w = 0 then tMan s t else if w = 1 then tDay s t else if w = 2 then tKind s t else if w = 3 then tPipe s t else if w = 4 then tSaid s t else if w = 5 then tExc s t else tNear s t
section ASKS
variable {n m : Nat} {ρ : Nat → Nat} {s : Nat → Int32} {k : KK} {B : HSt} {o : MO} {c : MC}
theorem X12_of (hs : sOk o.1) (t w : Int32) : f_X12_of (hM m o c B) m t w = some (if isN t (sN o.1 1) = true ∧ isN w 7 = true then nI (ofI o.1 (nN t) (nN w)) else -1, hM m o c B) := by
  have hn := hs.2.2.1
  unfold f_X12_of
  rw [hM_C, if_pos rfl, X12_isTry hs, bd2_some, bI_if, X12_inN w 7 (by omega) (by decide), bd2_some, bI_if]
  by_cases h1 : ¬ isN t (sN o.1 1) = true
  · rw [if_neg h1, if_neg (fun q => h1 q.1)]
  replace h1 := Decidable.not_not.mp h1
  by_cases h2 : ¬ isN w 7 = true
  · rw [if_pos h1, if_neg h2, if_neg (fun q => h2 q.2)]
  replace h2 := Decidable.not_not.mp h2
  have hc : isN t (sN o.1 1) = true ∧ isN w 7 = true := ⟨h1, h2⟩
  rw [if_pos h1, if_pos h2, if_pos hc]
  obtain ⟨t, ht, rfl⟩ := isN_of (by omega) h1
  obtain ⟨w, hw, rfl⟩ := isN_of (by omega) h2
  obtain ⟨e1, e2, e3, e4, e5, e6, -⟩ := hs.2.2.2.2.2.2 t ht
  rw [nN_nI (by omega), nN_nI (by omega), mR_1, ob, hM_C, if_pos rfl, X12_nearOf hs ht, bd2_some]
  have ei : (130 : Int32) + 30 * nI w + nI t = nI (130 + 30 * w + t) := by
    rw [show (130 : Int32) = nI 130 from rfl, show (30 : Int32) = nI 30 from rfl, pk_mul, nI_add, nI_add]
  rw [mA_s m o c B (k := 130 + 30 * w + t) ei (by omega), ob]
  unfold ofI
  rcases (show w = 0 ∨ w = 1 ∨ w = 2 ∨ w = 3 ∨ w = 4 ∨ w = 5 ∨ w = 6 by omega) with h | h | h | h | h | h | h <;> subst h
  · rw [if_neg (by decide), if_pos rfl]; exact congrArg (fun v => some (v, hM m o c B)) e1
  · rw [if_neg (by decide)]; exact congrArg (fun v => some (v, hM m o c B)) e2
  · rw [if_neg (by decide)]; exact congrArg (fun v => some (v, hM m o c B)) e3
  · rw [if_neg (by decide)]; exact congrArg (fun v => some (v, hM m o c B)) e4
  · rw [if_neg (by decide)]; exact congrArg (fun v => some (v, hM m o c B)) e5
  · rw [if_neg (by decide)]; exact congrArg (fun v => some (v, hM m o c B)) e6
  · rw [if_pos (show nI 6 = 6 from rfl)]; rfl
theorem X11_of (hs : sOk s) (hk : KR n s k B) (t w : Int32) : f_X11_of (hK n ρ k B) n t w = some (if isN t (sN s 1) = true ∧ isN w 7 = true then nI (ofI s (nN t) (nN w)) else -1, hK n ρ k B) := by
  have hn := hs.2.2.1
  unfold f_X11_of
  rw [hK_C, if_pos rfl]
  by_cases h1 : ¬ isN t (sN s 1) = true
  · rw [X11_tryX hs hk h1, bd2_some, oC_none, if_neg (fun q => h1 q.1)]
  replace h1 := Decidable.not_not.mp h1
  obtain ⟨t, ht, rfl⟩ := isN_of (by omega) h1
  obtain ⟨ad, ha, hA⟩ := hk.2.2.2.2 t ht
  have q2 := tyI_2 (ρ := ρ) (k := k) hA
  have q3 := tyI_3 (ρ := ρ) (k := k) hA
  have q4 := tyI_4 (ρ := ρ) (k := k) hA
  have q5 := tyI_5 (ρ := ρ) (k := k) hA
  have q6 := tyI_6 (ρ := ρ) (k := k) hA
  have q7 := tyI_7 (ρ := ρ) (k := k) hA
  have q8 := tyI_8 (ρ := ρ) (k := k) hA
  rw [X11_tryN hs hk ht ha, bd2_some, oC_some, q2, q3, q4, q5, q6, q7, q8]
  simp only [ob]
  by_cases h2 : ¬ isN w 7 = true
  · have ne : ∀ j : Nat, j < 7 → ¬ w = nI j := fun j hj e => h2 (by rw [e]; exact isN_nI (by omega) hj)
    have hc : ¬ (isN (nI t) (sN s 1) = true ∧ isN w 7 = true) := fun q => h2 q.2
    rw [if_neg (show ¬ w = 0 from ne 0 (by omega)), if_neg (show ¬ w = 1 from ne 1 (by omega)), if_neg (show ¬ w = 2 from ne 2 (by omega)), if_neg (show ¬ w = 3 from ne 3 (by omega)), if_neg (show ¬ w = 4 from ne 4 (by omega)), if_neg (show ¬ w = 5 from ne 5 (by omega)), if_neg (show ¬ w = 6 from ne 6 (by omega)), if_neg hc]
  replace h2 := Decidable.not_not.mp h2
  have hc : isN (nI t) (sN s 1) = true ∧ isN w 7 = true := ⟨h1, h2⟩
  rw [if_pos hc]
  obtain ⟨w, hw, rfl⟩ := isN_of (by omega) h2
  rw [nN_nI (by omega), nN_nI (by omega)]
  rcases (show w = 0 ∨ w = 1 ∨ w = 2 ∨ w = 3 ∨ w = 4 ∨ w = 5 ∨ w = 6 by omega) with h | h | h | h | h | h | h <;> subst h <;> rfl
theorem X12_as (hs : sOk o.1) (t w : Int32) : f_X12_as (hM m o c B) m t w = some (if isN t (sN o.1 1) = true ∧ isN w 7 = true then (if undB (tKind o.1 (nN t)) (nN w) = true then nI (tNear o.1 (nN t)) else -6) else -1, hM m o c B) := by
  have hn := hs.2.2.1
  unfold f_X12_as
  rw [hM_C, if_pos rfl, X12_isTry hs, bd2_some, bI_if, X12_inN w 7 (by omega) (by decide), bd2_some, bI_if]
  by_cases h1 : ¬ isN t (sN o.1 1) = true
  · rw [if_neg h1, if_neg (fun q => h1 q.1)]
  replace h1 := Decidable.not_not.mp h1
  by_cases h2 : ¬ isN w 7 = true
  · rw [if_pos h1, if_neg h2, if_neg (fun q => h2 q.2)]
  replace h2 := Decidable.not_not.mp h2
  have hc : isN t (sN o.1 1) = true ∧ isN w 7 = true := ⟨h1, h2⟩
  rw [if_pos h1, if_pos h2, if_pos hc]
  obtain ⟨t, ht, rfl⟩ := isN_of (by omega) h1
  obtain ⟨w, hw, rfl⟩ := isN_of (by omega) h2
  obtain ⟨-, -, e3, -, -, -, g1, g2, g3, -⟩ := hs.2.2.2.2.2.2 t ht
  rw [nN_nI (by omega), nN_nI (by omega), mR_1, ob, mA_s m o c B (i := 190 + nI t) (k := 190 + t) (nI_add 190 t) (by omega), e3, ob, X12_isUnder _ g3 hw, bd2_some, bI_if, hM_C, if_pos rfl, X12_nearOf hs ht, bd2_some]
  by_cases h : undB (tKind o.1 t) w = true
  · rw [if_pos h, if_pos h]
  · rw [if_neg h, if_neg h]
theorem X11_as (hs : sOk s) (hk : KR n s k B) (t w : Int32) : f_X11_as ρ (hK n ρ k B) n t w = some (if isN t (sN s 1) = true ∧ isN w 7 = true then (if undB (tKind s (nN t)) (nN w) = true then nI (tNear s (nN t)) else -6) else -1, hK n ρ k B) := by
  have hn := hs.2.2.1
  unfold f_X11_as
  rw [hK_C, if_pos rfl]
  by_cases h1 : ¬ isN t (sN s 1) = true
  · rw [X11_tryX hs hk h1, bd2_some, oC_none, if_neg (fun q => h1 q.1)]
  replace h1 := Decidable.not_not.mp h1
  obtain ⟨t, ht, rfl⟩ := isN_of (by omega) h1
  obtain ⟨ad, ha, hA⟩ := hk.2.2.2.2 t ht
  obtain ⟨-, -, -, -, -, -, g1, g2, g3, -⟩ := hs.2.2.2.2.2.2 t ht
  rw [X11_tryN hs hk ht ha, bd2_some, oC_some, X11_isKind, bd2_some, bI_if]
  by_cases h2 : ¬ isN w 7 = true
  · rw [if_neg h2, if_neg (fun q => h2 q.2)]
  replace h2 := Decidable.not_not.mp h2
  have hc : isN (nI t) (sN s 1) = true ∧ isN w 7 = true := ⟨h1, h2⟩
  rw [if_pos h2, if_pos hc]
  obtain ⟨w, hw, rfl⟩ := isN_of (by omega) h2
  rw [nN_nI (by omega), nN_nI (by omega), tyI_4 hA, ob, X11_under ρ g3 hw, bd2_some, bI_if, tyI_7 hA, ob]
  by_cases h : undB (tKind s t) w = true
  · rw [if_pos h, if_pos h]
  · rw [if_neg h, if_neg h]
theorem X12_trace {q : TQ} (hq : q.2 ≤ 20) (ho : o = oT o q) (i : Int32) : f_X12_trace (hM m o c B) m i = some (if isN i q.2 = true then q.1 (nN i) else -1, hM m o c B) := by
  have e1 : o.2.2.2.1 = nI q.2 := by rw [ho]; rfl
  have e2 : o.2.2.2.2 = q.1 := by rw [ho]; rfl
  have J : ∀ y : Int32, y = nI q.2 → f_X12_trace_J20 m i y (hM m o c B) = some (if isN i q.2 = true then q.1 (nN i) else -1, hM m o c B) := fun y hy => by
    unfold f_X12_trace_J20
    rw [hy, X12_inN i q.2 (by omega) rfl, bd2_some, bI_if]
    by_cases h : isN i q.2 = true
    · rw [if_pos h, if_pos h]
      obtain ⟨i, hi, rfl⟩ := isN_of (by omega) h
      rw [mR_15, ob, mA_b m o c B (k := i) rfl (by omega), e2, ob, nN_nI (by omega)]
    · rw [if_neg h, if_neg h]
  unfold f_X12_trace
  rw [mI_16, ob, e1, ob]
  by_cases h20 : q.2 = 20
  · rw [if_pos (by rw [h20]; decide), J 20 (by rw [h20]; rfl)]
  · rw [if_neg (show ¬ (20 : Int32) ≤ nI q.2 from nI_ge (b := 20) (by omega) (by omega)), J _ rfl]
theorem X11_trace {q : TQ} (hq : q.2 ≤ 20) (ho : k = kT k q) (i : Int32) : f_X11_trace (hK n ρ k B) n i = some (if isN i q.2 = true then q.1 (nN i) else -1, hK n ρ k B) := by
  have e1 : (kTc k).2 = nI q.2 := by rw [ho]; rfl
  have e2 : (kTc k).1 = q.1 := by rw [ho]; rfl
  have e : f_X8_bodyAt (hR (n + 10) (kTc k) (hK n ρ k B)) (n + 10) i = some (if isN i q.2 = true then q.1 (nN i) else -1, hR (n + 10) (kTc k) (hK n ρ k B)) := by
    unfold f_X8_bodyAt
    rw [RI_1, ob, e1]
    by_cases h : isN i q.2 = true
    · rw [if_pos h]
      obtain ⟨i, hi, rfl⟩ := isN_of (by omega) h
      rw [if_neg (nI_pos (by omega)), if_neg (nI_ge hi (by omega)), RR_0, ob, RN_1, ob, if_neg (show ¬ (20 : Int32) ≤ nI i from nI_ge (b := 20) (by omega) (by omega)), ob, RA_1 (n + 10) (kTc k) _ (k := i) rfl (by omega), e2, ob, nN_nI (by omega)]
    · rw [if_neg h]
      rcases isN_false (by omega) h with h0 | ⟨h0, h5⟩
      · rw [if_pos h0]
      · rw [if_neg h0, if_pos h5]
  rw [hK_tc] at e
  have e : f_X8_bodyAt (hK n ρ k B) (n + 10) i = some (if isN i q.2 = true then q.1 (nN i) else -1, hK n ρ k B) := e
  unfold f_X11_trace
  rw [KR_10, ob, gC_tc, if_pos rfl, e, bd2_some]
def cntI (s : Nat → Int32) (r : Int32) (w : Int32) : Int32 := if w = 0 then s 0 else if w = 1 then s 1 else if w = 2 then s 2 else if w = 3 then s 3 else if w = 4 then s 4 else if w = 5 then r else -1
theorem X12_count_ (w : Int32) : f_X12_count (hM m o c B) m w = some (cntI o.1 o.2.2.2.1 w, hM m o c B) := by
  unfold f_X12_count cntI
  rw [mR_1, ob, ob, ob, ob, ob, mA_0, ob, mA_1, ob, mA_2, ob, mA_3, ob, mA_4, ob, mI_16, ob]
  repeat' split
  all_goals rfl
theorem X11_count_ (hk : KR n s k B) (ht : (kTp k).2.1 = s 4) (w : Int32) : f_X11_count (hK n ρ k B) n w = some (cntI s (kTc k).2 w, hK n ρ k B) := by
  have e4 : gI (hK n ρ k B) (n + 2) 6 1 = some ((kTp k).2.1) := by
    have e := PI_1 (n + 2) (kTp k) (hK n ρ k B)
    rw [← hK_tp0 n ρ k B] at e
    exact e
  have e5 : gI (hK n ρ k B) (n + 10) 8 1 = some ((kTc k).2) := by
    have e := RI_1 (n + 10) (kTc k) (hK n ρ k B)
    rw [← hK_tc0 n ρ k B] at e
    exact e
  unfold f_X11_count cntI
  rw [KI_0, ob, KI_2, ob, KI_5, ob, KI_7, ob, KR_3, ob, e4, ob, KR_10, ob, e5, ob, hk.1, hk.2.1, hk.2.2.1, hk.2.2.2.1, ht]
  repeat' split
  all_goals rfl
end ASKS
