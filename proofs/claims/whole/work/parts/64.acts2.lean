/-! THE CLASS: acts of kinds -/
def kT (k : KK) (q : TQ) : KK := kuTc k (q.1, nI q.2)
section ACTK
variable {n : Nat} {ρ : Nat → Nat} {s : Nat → Int32} {k : KK} {B : HSt} {t a : Nat}
theorem K_gC (hA : TA n s B t a) : gC (hK n ρ k B) a = some (kcN (tKind s t)) := by
  obtain ⟨h1, h2, h3⟩ := hA
  unfold gC
  rw [hK_out n ρ k B (Or.inr (by omega)), h3]
theorem K_gK (hA : TA n s B t a) : gK (hK n ρ k B) a = true := by
  obtain ⟨h1, h2, h3⟩ := hA
  unfold gK
  rw [hK_out n ρ k B (Or.inr (by omega)), h3]
  exact kcN_kin _
theorem K_gRT (hA : TA n s B t a) : gRT (hK n ρ k B) a 0 = some (some (n + 10)) := by
  obtain ⟨h1, h2, h3⟩ := hA
  unfold gRT
  rw [hK_out n ρ k B (Or.inr (by omega)), h3]
  simp only [kcN_kin, if_true]
  rfl
theorem gC_tc : gC (hK n ρ k B) (n + 10) = some 8 := by
  have e := hR_C (n + 10) (kTc k) (hK n ρ k B)
  rw [← hK_tc0 n ρ k B] at e
  exact e
theorem X8_add {q : TQ} (hq : q.2 < 20) (b : Nat) : f_X8_add (hK n ρ (kT k q) B) (n + 10) (nI b) = some (hK n ρ (kT k (addT b q)) B) := by
  have e : f_X8_add (hR (n + 10) (q.1, nI q.2) (hK n ρ (kT k q) B)) (n + 10) (nI b) = some (hR (n + 10) (upd q.1 q.2 (nI b), nI (q.2 + 1)) (hK n ρ (kT k q) B)) := by
    unfold f_X8_add
    rw [RI_1, ob, if_neg (nI_pos (by omega)), ob, RR_0, ob, RN_1, ob, if_neg (show ¬ (20 : Int32) ≤ nI q.2 from nI_ge (b := 20) hq (by omega)), ob, ob, RS_1 (n + 10) (q.1, nI q.2) _ (k := q.2) rfl hq, ob, RI_1, ob, RP_1, ob, nI_1]
  rw [hK_tc, hK_tc] at e
  exact e
theorem X9_begin (hA : TA n s B t a) {q : TQ} (hq : q.2 < 20) (b : Nat) : f_X9_begin (hK n ρ (kT k q) B) a (nI b) = some (hK n ρ (kT k (addT b q)) B) := by
  unfold f_X9_begin
  rw [K_gRT hA, ob, oC_some, ob, oC_some, gC_tc, if_pos rfl, X8_add hq, ob]
theorem V9_begin (hA : TA n s B t a) {q : TQ} (hq : q.2 < 20) (b : Nat) : fv_X9_begin (hK n ρ (kT k q) B) a (nI b) = some (hK n ρ (kT k (addT b q)) B) := by
  unfold fv_X9_begin
  rw [K_gC hA, oC_some, kin_if (kcN_kin _), X9_begin hA hq]
theorem X9_say (hA : TA n s B t a) {q : TQ} (hq : q.2 < 20) (x : Int32) : f_X9_say (hK n ρ (kT k q) B) a x = some (x + nI t, hK n ρ (kT k (addT 1 q)) B) := by
  unfold f_X9_say
  rw [show (1 : Int32) = nI 1 from rfl, V9_begin hA hq, ob, tyI_1 hA, ob]
theorem kd_cases {kd : Nat} (h : kd < 7) : kd = 0 ∨ kd = 1 ∨ kd = 2 ∨ kd = 3 ∨ kd = 4 ∨ kd = 5 ∨ kd = 6 := by omega
theorem V9_say (hA : TA n s B t a) (hk : tKind s t < 7) {q : TQ} (hq : q.2 < 19) (x : Int32) : fv_X9_say (hK n ρ (kT k q) B) a x = some (sayV (tKind s t) t x, hK n ρ (kT k (addL (sayT (tKind s t)) q)) B) := by
  have e := fun q : TQ => K_gC (ρ := ρ) (k := kT k q) hA
  have p0 := X9_say (ρ := ρ) (k := k) hA (show q.2 < 20 by omega) x
  have b1 := X9_begin (ρ := ρ) (k := k) hA (show q.2 < 20 by omega) 51
  have b2 := X9_begin (ρ := ρ) (k := k) hA (show q.2 < 20 by omega) 11
  have p1 := X9_say (ρ := ρ) (k := k) hA (q := addT 51 q) (show q.2 + 1 < 20 by omega) x
  have p2 := X9_say (ρ := ρ) (k := k) hA (q := addT 11 q) (show q.2 + 1 < 20 by omega) (x * 3)
  unfold fv_X9_say
  rw [e, oC_some]
  rcases kd_cases hk with h | h | h | h | h | h | h <;> rw [h] at e ⊢
  · exact p0
  · show f_X2_say _ _ _ = _
    unfold f_X2_say fv_X2_begin
    rw [e, oC_some, show kcN 1 = 2 from rfl, if_pos rfl, show (11 : Int32) = nI 11 from rfl, b2, ob, K_gK hA, if_pos rfl, p2, bd2_some]
    rfl
  · exact p0
  · exact p0
  · exact p0
  · show f_X1_say _ _ _ = _
    unfold f_X1_say fv_X1_begin fv_X1_number
    rw [e, oC_some, show kcN 5 = 1 from rfl, if_pos rfl, show (51 : Int32) = nI 51 from rfl, b1, ob, K_gK hA, if_pos rfl, p1, bd2_some, e, oC_some, show kcN 5 = 1 from rfl, if_pos rfl]
    unfold f_X9_number
    rw [tyI_1 hA, ob, bd2_some]
    rfl
  · exact p0
theorem X9_know (hA : TA n s B t a) (hk : tKind s t < 7) {q : TQ} (hq : q.2 < 18) (x : Int32) : f_X9_know (hK n ρ (kT k q) B) a x = some (sayV (tKind s t) t x - nI (tSaid s t), hK n ρ (kT k (addL (2 :: sayT (tKind s t)) q)) B) := by
  unfold f_X9_know
  rw [show (2 : Int32) = nI 2 from rfl, V9_begin hA (by omega), ob, V9_say hA hk (by show q.2 + 1 < 19; omega), bd2_some, tyI_6 hA, ob]
  rfl
theorem V9_know (hA : TA n s B t a) (hk : tKind s t < 7) {q : TQ} (hq : q.2 < 17) (x : Int32) : fv_X9_know (hK n ρ (kT k q) B) a x = some (knoV (tKind s t) t (tSaid s t) x, hK n ρ (kT k (addL (knoT (tKind s t)) q)) B) := by
  have e := fun q : TQ => K_gC (ρ := ρ) (k := kT k q) hA
  have p0 := X9_know (ρ := ρ) (k := k) hA hk (show q.2 < 18 by omega) x
  have b1 := X9_begin (ρ := ρ) (k := k) hA (show q.2 < 20 by omega) 21
  have b2 := X9_begin (ρ := ρ) (k := k) hA (show q.2 < 20 by omega) 61
  have p1 := X9_know (ρ := ρ) (k := k) hA hk (q := addT 21 q) (show q.2 + 1 < 18 by omega) x
  have p2 := X9_know (ρ := ρ) (k := k) hA hk (q := addT 61 q) (show q.2 + 1 < 18 by omega) x
  have x0 : (tKind s t = 2 ∨ tKind s t = 4 ∨ tKind s t = 5) → f_X0_know (hK n ρ (kT k q) B) a x = some (knoV (tKind s t) t (tSaid s t) x, hK n ρ (kT k (addL (knoT (tKind s t)) q)) B) := fun h => by
    unfold f_X0_know fv_X0_begin
    have hb : (if kcN (tKind s t) = 0 then f_X9_begin (hK n ρ (kT k q) B) a 21 else if kcN (tKind s t) = 1 then f_X9_begin (hK n ρ (kT k q) B) a 21 else if kcN (tKind s t) = 3 then f_X9_begin (hK n ρ (kT k q) B) a 21 else none) = f_X9_begin (hK n ρ (kT k q) B) a 21 := by
      rcases h with h | h | h <;> rw [h] <;> rfl
    rw [e, oC_some, hb, show (21 : Int32) = nI 21 from rfl, b1, ob, K_gK hA, if_pos rfl, p1, bd2_some]
    unfold knoV knoT
    have h6 : ¬ tKind s t = 6 := by omega
    rw [if_neg h6, if_neg h6, if_pos h, if_pos h]
    rfl
  have hn : ∀ h6 : ¬ tKind s t = 6, ∀ h : ¬ (tKind s t = 2 ∨ tKind s t = 4 ∨ tKind s t = 5), f_X9_know (hK n ρ (kT k q) B) a x = some (knoV (tKind s t) t (tSaid s t) x, hK n ρ (kT k (addL (knoT (tKind s t)) q)) B) := fun h6 h => by
    rw [p0]
    unfold knoV knoT
    rw [if_neg h6, if_neg h6, if_neg h, if_neg h]
  unfold fv_X9_know
  rw [e, oC_some]
  rcases kd_cases hk with h | h | h | h | h | h | h
  · rw [← hn (by omega) (by omega), h]; rfl
  · rw [← hn (by omega) (by omega), h]; rfl
  · rw [← x0 (by omega), h]; rfl
  · rw [← hn (by omega) (by omega), h]; rfl
  · rw [← x0 (by omega), h]; rfl
  · rw [← x0 (by omega), h]; rfl
  · rw [h] at e ⊢
    show f_X10_know _ _ _ = _
    unfold f_X10_know fv_X10_begin fv_X10_place
    rw [e, oC_some, show kcN 6 = 10 from rfl, if_pos rfl, show (61 : Int32) = nI 61 from rfl, b2, ob, K_gK hA, if_pos rfl, p2, bd2_some, e, oC_some, show kcN 6 = 10 from rfl, if_pos rfl]
    unfold f_X9_place
    rw [tyI_6 hA, ob, bd2_some, h]
    rfl
theorem X9_tell (hA : TA n s B t a) (hk : tKind s t < 7) {q : TQ} (hq : q.2 < 16) (x : Int32) : f_X9_tell (hK n ρ (kT k q) B) a x = some (knoV (tKind s t) t (tSaid s t) x * 2, hK n ρ (kT k (addL (3 :: knoT (tKind s t)) q)) B) := by
  unfold f_X9_tell
  rw [show (3 : Int32) = nI 3 from rfl, V9_begin hA (by omega), ob, V9_know hA hk (by show q.2 + 1 < 17; omega), bd2_some]
  rfl
theorem V9_tell (hA : TA n s B t a) (hk : tKind s t < 7) {q : TQ} (hq : q.2 < 10) (x : Int32) : fv_X9_tell (hK n ρ (kT k q) B) a x = some (telV (tKind s t) t (tSaid s t) x, hK n ρ (kT k (addL (telT (tKind s t)) q)) B) := by
  have e := fun q : TQ => K_gC (ρ := ρ) (k := kT k q) hA
  have p0 := X9_tell (ρ := ρ) (k := k) hA hk (show q.2 < 16 by omega) x
  have b1 := X9_begin (ρ := ρ) (k := k) hA (show q.2 < 20 by omega) 31
  have b2 := X9_begin (ρ := ρ) (k := k) hA (show q.2 < 20 by omega) 41
  have p1 := X9_tell (ρ := ρ) (k := k) hA hk (q := addT 31 q) (show q.2 + 1 < 16 by omega) x
  have p2 := X9_tell (ρ := ρ) (k := k) hA hk (q := addT 41 q) (show q.2 + 1 < 16 by omega) (x - 1)
  have hl : (addL (3 :: knoT (tKind s t)) (addT 41 q)).2 < 19 := by
    rw [addL_2]
    have := knoT_len (tKind s t)
    simp only [List.length_cons]
    show q.2 + 1 + _ < 19
    omega
  have p3 := X9_say (ρ := ρ) (k := k) hA (q := addL (3 :: knoT (tKind s t)) (addT 41 q)) (by omega) 2
  have x5 : (tKind s t = 3 ∨ tKind s t = 6) → f_X5_tell (hK n ρ (kT k q) B) a x = some (telV (tKind s t) t (tSaid s t) x, hK n ρ (kT k (addL (telT (tKind s t)) q)) B) := fun h => by
    unfold f_X5_tell fv_X5_begin
    have hb : (if kcN (tKind s t) = 5 then f_X9_begin (hK n ρ (kT k q) B) a 31 else if kcN (tKind s t) = 10 then f_X9_begin (hK n ρ (kT k q) B) a 31 else none) = f_X9_begin (hK n ρ (kT k q) B) a 31 := by
      rcases h with h | h <;> rw [h] <;> rfl
    rw [e, oC_some, hb, show (31 : Int32) = nI 31 from rfl, b1, ob, K_gK hA, if_pos rfl, p1, bd2_some]
    unfold telV telT
    have h4 : ¬ tKind s t = 4 := by omega
    rw [if_neg h4, if_neg h4, if_pos h, if_pos h]
    rfl
  have hn : ∀ h6 : ¬ tKind s t = 4, ∀ h : ¬ (tKind s t = 3 ∨ tKind s t = 6), f_X9_tell (hK n ρ (kT k q) B) a x = some (telV (tKind s t) t (tSaid s t) x, hK n ρ (kT k (addL (telT (tKind s t)) q)) B) := fun h6 h => by
    rw [p0]
    unfold telV telT
    rw [if_neg h6, if_neg h6, if_neg h, if_neg h]
  unfold fv_X9_tell
  rw [e, oC_some]
  rcases kd_cases hk with h | h | h | h | h | h | h
  · rw [← hn (by omega) (by omega), h]; rfl
  · rw [← hn (by omega) (by omega), h]; rfl
  · rw [← hn (by omega) (by omega), h]; rfl
  · rw [← x5 (by omega), h]; rfl
  · rw [h] at e p2 p3 ⊢
    show f_X3_tell _ _ _ = _
    unfold f_X3_tell fv_X3_begin fv_X3_say
    rw [e, oC_some, show kcN 4 = 3 from rfl, if_pos rfl, show (41 : Int32) = nI 41 from rfl, b2, ob, K_gK hA, if_pos rfl, p2, bd2_some, e, oC_some, show kcN 4 = 3 from rfl, if_pos rfl, p3, bd2_some]
    rfl
  · rw [← hn (by omega) (by omega), h]; rfl
  · rw [← x5 (by omega), h]; rfl
/-- what an act answers, and its trace -/
def actV (kd i p a : Nat) (x : Int32) : Int32 := if a = 0 then sayV kd i x else if a = 1 then knoV kd i p x else telV kd i p x
def actT (kd a : Nat) : List Nat := if a = 0 then sayT kd else if a = 1 then knoT kd else telT kd
theorem X11_act (hs : sOk s) (hk : KR n s k B) (u b x : Int32) : f_X11_act (hK n ρ k B) n u b x = some (if isN u (sN s 1) = true ∧ isN b 3 = true then actV (tKind s (nN u)) (nN u) (tSaid s (nN u)) (nN b) x else 0, hK n ρ (kT k (if isN u (sN s 1) = true ∧ isN b 3 = true then addL (actT (tKind s (nN u)) (nN b)) ((kTc k).1, 0) else ((kTc k).1, 0))) B) := by
  have hn := hs.2.2.1
  have hclr : f_X8_clear (hK n ρ k B) (n + 10) = some (hK n ρ (kT k ((kTc k).1, 0)) B) := by
    have e : f_X8_clear (hR (n + 10) (kTc k) (hK n ρ k B)) (n + 10) = some (hR (n + 10) ((kTc k).1, 0) (hK n ρ k B)) := by
      unfold f_X8_clear
      rw [RP_1, ob]
    rw [hK_tc, hK_tc] at e
    exact e
  have hk2 : KR n s (kT k ((kTc k).1, 0)) B := hk
  unfold f_X11_act
  rw [KR_10, ob, gC_tc, if_pos rfl, hclr, ob, hK_C, if_pos rfl]
  by_cases h1 : ¬ isN u (sN s 1) = true
  · have hc : ¬ (isN u (sN s 1) = true ∧ isN b 3 = true) := fun q => h1 q.1
    rw [X11_tryX hs hk2 h1, bd2_some, oC_none, if_neg hc, if_neg hc]
  replace h1 := Decidable.not_not.mp h1
  obtain ⟨t, ht, rfl⟩ := isN_of (by omega) h1
  obtain ⟨ad, ha, hA⟩ := hk.2.2.2.2 t ht
  obtain ⟨-, -, -, -, -, -, g1, g2, g3, g4, g5, g6⟩ := hs.2.2.2.2.2.2 t ht
  rw [X11_tryN hs hk2 ht ha, bd2_some, oC_some, nN_nI (by omega)]
  by_cases h2 : ¬ isN b 3 = true
  · have w0 : ¬ b = 0 := fun e => h2 (by rw [e]; decide)
    have w1 : ¬ b = 1 := fun e => h2 (by rw [e]; decide)
    have w2 : ¬ b = 2 := fun e => h2 (by rw [e]; decide)
    have hc : ¬ (isN (nI t) (sN s 1) = true ∧ isN b 3 = true) := fun q => h2 q.2
    rw [if_neg w0, if_neg w1, if_neg w2, if_neg hc, if_neg hc]
  replace h2 := Decidable.not_not.mp h2
  have hc : isN (nI t) (sN s 1) = true ∧ isN b 3 = true := ⟨h1, h2⟩
  rw [if_pos hc, if_pos hc]
  obtain ⟨b, hb, rfl⟩ := isN_of (by omega) h2
  rw [nN_nI (by omega)]
  rcases (show b = 0 ∨ b = 1 ∨ b = 2 by omega) with rfl | rfl | rfl
  · rw [if_pos (show nI 0 = 0 from rfl), V9_say hA g3 (by show 0 < 19; omega), bd2_some]; rfl
  · rw [if_neg (show ¬ nI 1 = 0 by decide), if_pos (show nI 1 = 1 from rfl), V9_know hA g3 (by show 0 < 17; omega), bd2_some]; rfl
  · rw [if_neg (show ¬ nI 2 = 0 by decide), if_neg (show ¬ nI 2 = 1 by decide), if_pos (show nI 2 = 2 from rfl), V9_tell hA g3 (by show 0 < 10; omega), bd2_some]; rfl
theorem X12_act {m : Nat} {o : MO} {c : MC} (hs : sOk o.1) (u b x : Int32) : ∃ c', f_X12_act (hM m o c B) m u b x = some (if isN u (sN o.1 1) = true ∧ isN b 3 = true then actV (tKind o.1 (nN u)) (nN u) (tSaid o.1 (nN u)) (nN b) x else 0, hM m (oT o (if isN u (sN o.1 1) = true ∧ isN b 3 = true then addL (actT (tKind o.1 (nN u)) (nN b)) (o.2.2.2.2, 0) else (o.2.2.2.2, 0))) c' B) := by
  have hn := hs.2.2.1
  have hs2 : sOk (oT o (o.2.2.2.2, 0)).1 := hs
  have htry : f_X12_isTry (hM m (oT o (o.2.2.2.2, 0)) c B) m u = some (bI (isN u (sN o.1 1)), hM m (oT o (o.2.2.2.2, 0)) c B) := X12_isTry hs2 u
  unfold f_X12_act
  rw [mP_16, ob, show oR o 0 = oT o (o.2.2.2.2, 0) from rfl, hM_C, if_pos rfl, htry, bd2_some, bI_if]
  by_cases h1 : ¬ isN u (sN o.1 1) = true
  · have hc : ¬ (isN u (sN o.1 1) = true ∧ isN b 3 = true) := fun q => h1 q.1
    exact ⟨c, by rw [if_neg h1, if_neg hc, if_neg hc]⟩
  replace h1 := Decidable.not_not.mp h1
  rw [if_pos h1, X12_inN b 3 (by omega) (by decide), bd2_some, bI_if]
  by_cases h2 : ¬ isN b 3 = true
  · have hc : ¬ (isN u (sN o.1 1) = true ∧ isN b 3 = true) := fun q => h2 q.2
    exact ⟨c, by rw [if_neg h2, if_neg hc, if_neg hc]⟩
  replace h2 := Decidable.not_not.mp h2
  have hc : isN u (sN o.1 1) = true ∧ isN b 3 = true := ⟨h1, h2⟩
  rw [if_pos h2, if_pos hc, if_pos hc]
  obtain ⟨t, ht, rfl⟩ := isN_of (by omega) h1
  obtain ⟨b, hb, rfl⟩ := isN_of (by omega) h2
  obtain ⟨-, -, e3, -, e5, -, g1, g2, g3, g4, g5, g6⟩ := hs.2.2.2.2.2.2 t ht
  rw [nN_nI (by omega), nN_nI (by omega), mR_1, ob, mA_s m _ c B (i := 190 + nI t) (k := 190 + t) (nI_add 190 t) (by omega), show (oT o (o.2.2.2.2, 0)).1 (190 + t) = nI (tKind o.1 t) from e3, ob, mP_17, ob, mP_18, ob, mR_1, ob, mA_s m _ _ B (i := 250 + nI t) (k := 250 + t) (nI_add 250 t) (by omega), show (oT o (o.2.2.2.2, 0)).1 (250 + t) = nI (tSaid o.1 t) from e5, ob, mP_19, ob]
  have hac : actC (cI (cI (cI c 17 (nI (tKind o.1 t))) 18 (nI t)) 19 (nI (tSaid o.1 t))) (tKind o.1 t) t (tSaid o.1 t) := ⟨by simp [cI, upd], by simp [cI, upd], by simp [cI, upd]⟩
  refine ⟨cI (cI (cI c 17 (nI (tKind o.1 t))) 18 (nI t)) 19 (nI (tSaid o.1 t)), ?_⟩
  generalize cI (cI (cI c 17 (nI (tKind o.1 t))) 18 (nI t)) 19 (nI (tSaid o.1 t)) = c2 at *
  rw [hM_C, if_pos rfl, if_pos rfl, if_pos rfl]
  rcases (show b = 0 ∨ b = 1 ∨ b = 2 by omega) with rfl | rfl | rfl
  · rw [if_pos (show nI 0 = 0 from rfl), X12_saysActs (by show 0 < 19; omega) g3 hac, bd2_some]; rfl
  · rw [if_neg (show ¬ nI 1 = 0 by decide), if_pos (show nI 1 = 1 from rfl), X12_knowsActs (by show 0 < 17; omega) g3 hac, bd2_some]; rfl
  · rw [if_neg (show ¬ nI 2 = 0 by decide), if_neg (show ¬ nI 2 = 1 by decide), X12_tellsActs (by show 0 < 10; omega) g3 hac, bd2_some]; rfl
end ACTK
