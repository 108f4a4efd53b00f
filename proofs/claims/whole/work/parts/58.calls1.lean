/-! THE CLASS'S CALLS: told, passes, chance, odds, best -/
section CLS4
variable {n : Nat} {ρ : Nat → Nat} {s : Nat → Int32} {k : KK} {B : HSt} {tx : Nat → List Cl}
theorem X11_told_0 (hs : sOk s) (hk : KR n s k B) {x : Int32} (what : Int32) (hx : ¬ isN x (sN s 2) = true) : f_X11_told (hK n ρ k B) n x what = some (-1, hK n ρ k B) := by
  unfold f_X11_told
  rw [hK_C, if_pos rfl, X11_planX hs hk hx, bd2_some, oC_none]
theorem X11_told (hs : sOk s) (hk : KR n s k B) (ho : txOk s tx) (hx : KX s tx k) {p : Nat} (hp : p < sN s 2) (what : Int32) : f_X11_told (hK n ρ k B) n (nI p) what = some (if what = 0 then nI (hitN s p) else if what = 1 then nI (needN s p) else if what = 2 then cntS s (tx p) p else if what = 3 then hitS s (cntS s (tx p) p) (hitN s p) else -1, hK n ρ k B) := by
  have hn : sN s 2 ≤ 5 := hs.2.2.2.1
  obtain ⟨x1, x2, x3, x4, x5⟩ := ho.1 p hp
  obtain ⟨y1, y2, y3⟩ := hx.1 p hp
  unfold f_X11_told
  rw [hK_C, if_pos rfl, X11_planN hs hk hp, bd2_some, oC_some, gI_tx (by omega) (Or.inl rfl), ob, y2, x2, gI_tx (by omega) (Or.inr (Or.inl rfl)), ob, y3, x4, hK_C, if_pos rfl, if_pos rfl, X11_countS hs hk hx hp, bd2_some, X11_hitBits hs hk ho hx hp, bd2_some]
  by_cases w0 : what = 0
  · rw [if_pos w0, if_pos w0]
  by_cases w1 : what = 1
  · rw [if_neg w0, if_neg w0, if_pos w1, if_pos w1]
  rw [if_neg w0, if_neg w0, if_neg w1, if_neg w1]
  by_cases w2 : what = 2
  · rw [if_pos w2, if_pos w2]
  rw [if_neg w2, if_neg w2]
  by_cases w3 : what = 3
  · rw [if_pos w3, if_pos w3]
  rw [if_neg w3, if_neg w3]
theorem X11_passes_0 (hs : sOk s) (hk : KR n s k B) {x : Int32} (hx : ¬ isN x (sN s 2) = true) : f_X11_passes (hK n ρ k B) n x = some (-1, hK n ρ k B) := by
  unfold f_X11_passes
  rw [hK_C, if_pos rfl, X11_planX hs hk hx, bd2_some, oC_none]
theorem X11_passes (hs : sOk s) (hk : KR n s k B) (ho : txOk s tx) (hx : KX s tx k) {p : Nat} (hp : p < sN s 2) : f_X11_passes (hK n ρ k B) n (nI p) = some (pasS s (tx p) p, hK n ρ k B) := by
  have hn : sN s 2 ≤ 5 := hs.2.2.2.1
  obtain ⟨x1, x2, x3, x4, x5⟩ := ho.1 p hp
  obtain ⟨y1, y2, y3⟩ := hx.1 p hp
  unfold f_X11_passes
  rw [hK_C, if_pos rfl, X11_planN hs hk hp, bd2_some, oC_some, hK_C, if_pos rfl, X11_hitBits hs hk ho hx hp, bd2_some, gI_tx (by omega) (Or.inr (Or.inl rfl)), ob, y3, x4, hK_C, if_pos rfl, X11_passing hs hk ho hp, bd2_some]
theorem X11_chance (hs : sOk s) (hk : KR n s k B) (ho : txOk s tx) (hx : KX s tx k) (a t part : Int32) : f_X11_chance (hK n ρ k B) n a t part = some (if isN a (sN s 2) = true ∧ isN t (sN s 1) = true ∧ isN part 2 = true then frL (pbN s (tSaid s (nN t)) (hitN s (nN a))) (sN s 0) part else NOl, hK n ρ k B) := by
  have hp := hs.2.1
  have hn := hs.2.2.1
  have hn2 := hs.2.2.2.1
  unfold f_X11_chance
  rw [hK_C, if_pos rfl]
  by_cases h1 : isN a (sN s 2) = true
  · obtain ⟨p, hpp, rfl⟩ := isN_of (by omega) h1
    rw [X11_planN hs hk hpp, bd2_some, oC_some, hK_C, if_pos rfl]
    by_cases h2 : isN t (sN s 1) = true
    · obtain ⟨t, ht, rfl⟩ := isN_of (by omega) h2
      obtain ⟨ad, ha, hT⟩ := hk.2.2.2.2 t ht
      obtain ⟨-, -, -, -, -, -, g1, g2, g3, g4, g5, g6⟩ := hs.2.2.2.2.2.2 t ht
      obtain ⟨-, eh, hh, -⟩ := ho.1 p hpp
      obtain ⟨-, y2, -⟩ := hx.1 p hpp
      have hpb := pbN_le s (tSaid s t) (hitN s p)
      rw [nN_nI (by omega), nN_nI (by omega), X11_tryN hs hk ht ha, bd2_some, oC_some, tyI_6 hT, ob, gI_tx (by omega) (Or.inl rfl), ob, y2, eh, hK_C, if_pos rfl, X11_placesWithin hs hk g5 (by omega), bd2_some, KI_0, ob, hk.1, hs.1 0 (by omega), nI_l (by omega), nI_l (by omega), X11_partOf (by omega) (by omega) (by omega), bd2_some]
      by_cases h3 : isN part 2 = true
      · have hc : isN (nI p) (sN s 2) = true ∧ isN (nI t) (sN s 1) = true ∧ isN part 2 = true := ⟨h1, h2, h3⟩
        rw [if_pos hc, if_pos h3]; rfl
      · rw [if_neg h3, if_neg (fun q => h3 q.2.2)]; rfl
    · rw [X11_tryX hs hk h2, bd2_some, oC_none, if_neg (fun q => h2 q.2.1)]; rfl
  · rw [X11_planX hs hk h1, bd2_some, oC_none, hK_C, if_pos rfl, if_neg (fun q => h1 q.1)]
    by_cases h2 : isN t (sN s 1) = true
    · obtain ⟨t, ht, rfl⟩ := isN_of (by omega) h2
      obtain ⟨ad, ha, hT⟩ := hk.2.2.2.2 t ht
      rw [X11_tryN hs hk ht ha, bd2_some, oC_some]; rfl
    · rw [X11_tryX hs hk h2, bd2_some, oC_none]; rfl
theorem gC_od : gC (hK n ρ k B) (n + 6) = some 4 := by
  have e := hO_C (n + 6) (kOd k) (hK n ρ k B)
  rw [← hK_od0 n ρ k B] at e
  exact e
theorem gL_od : gL (hK n ρ k B) (n + 6) 4 2 = some (kOd k).2.2 := by
  have e := OL_2 (n + 6) (kOd k) (hK n ρ k B)
  rw [← hK_od0 n ρ k B] at e
  exact e
theorem K_orMore {w : Nat → Nat} {z al : Nat} (h : OW (kOd k) w z al) (hz : z ≤ 9) {i : Nat} (hi : i < 2 ^ 20) (hle : smN w i ≤ al) : f_X4_orMore (hK n ρ k B) (n + 6) (nI i) = some (lN (al - smN w i), hK n ρ k B) := by
  have e := X4_orMore (q := n + 6) (B := hK n ρ k B) h hz hi hle
  rw [← hK_od0 n ρ k B] at e
  exact e
theorem K_fewer {w : Nat → Nat} {z al : Nat} (h : OW (kOd k) w z al) (hz : z ≤ 9) {i : Nat} (hi : i < 2 ^ 20) : f_X4_fewer (hK n ρ k B) (n + 6) (nI i) = some (lN (smN w i), hK n ρ k B) := by
  have e := X4_fewer (q := n + 6) (B := hK n ρ k B) h hz hi
  rw [← hK_od0 n ρ k B] at e
  exact e
theorem K_exactly {w : Nat → Nat} {z al : Nat} (h : OW (kOd k) w z al) (hz : z ≤ 9) {i : Nat} (hi : i < 2 ^ 20) : f_X4_exactly (hK n ρ k B) (n + 6) (nI i) = some (lN (w i), hK n ρ k B) := by
  have e := X4_exactly (q := n + 6) (B := hK n ρ k B) h hz hi
  rw [← hK_od0 n ρ k B] at e
  exact e
/-- ways known, a fraction of them -/
theorem or_eq (s : Nat → Int32) (set : Int32) (hit : Nat) (h : cnN set (sN s 1) ≤ 9) {i : Nat} (hi : i ≤ 11) : alN s set (sN s 1) - smN (wyN s set hit (sN s 1)) i = orN (wyN s set hit (sN s 1)) i ∧ smN (wyN s set hit (sN s 1)) i ≤ alN s set (sN s 1) := by
  have := or_fewer s set hit (sN s 1) (by omega) hi
  omega
theorem X11_odds (hs : sOk s) (hk : KR n s k B) (ho : txOk s tx) (hx : KX s tx k) (a set i what part : Int32) : ∃ x, f_X11_odds (hK n ρ k B) n a set i what part = some (if isN a (sN s 2) = true ∧ isN set (2 ^ sN s 1) = true ∧ isN i 10 = true ∧ isN what 2 = true ∧ isN part 2 = true ∧ numS set ≤ 9 then oddsV s set (hitN s (nN a)) (nN i) what part else NOl, hK n ρ (kuOd k x) B) := by
  have hp := hs.2.1
  have hn := hs.2.2.1
  have hn2 := hs.2.2.2.1
  unfold f_X11_odds
  rw [hK_C, if_pos rfl]
  by_cases h1 : ¬ (isN a (sN s 2) = true)
  · exact ⟨kOd k, by rw [X11_planX hs hk h1, bd2_some, oC_none, if_neg (fun q => h1 q.1)]; rfl⟩
  replace h1 := Decidable.not_not.mp h1
  obtain ⟨p, hpp, rfl⟩ := isN_of (by omega) h1
  rw [X11_planN hs hk hpp, bd2_some, oC_some, hK_C, if_pos rfl, X11_isSet hs hk, bd2_some, bI_if]
  by_cases h2 : ¬ (isN set (2 ^ sN s 1) = true)
  · exact ⟨kOd k, by rw [if_neg h2, if_neg (fun q => h2 q.2.1)]; rfl⟩
  replace h2 := Decidable.not_not.mp h2
  rw [if_pos h2, X11_isHitNumber, bd2_some, bI_if]
  by_cases h3 : ¬ (isN i 10 = true)
  · exact ⟨kOd k, by rw [if_neg h3, if_neg (fun q => h3 q.2.2.1)]; rfl⟩
  replace h3 := Decidable.not_not.mp h3
  rw [if_pos h3, X11_isOneOfTwo, bd2_some, bI_if]
  by_cases h4 : ¬ (isN what 2 = true)
  · exact ⟨kOd k, by rw [if_neg h4, if_neg (fun q => h4 q.2.2.2.1)]; rfl⟩
  replace h4 := Decidable.not_not.mp h4
  have h30 := numS_le set
  rw [if_pos h4, X_setC hs _ h2, bd2_some]
  by_cases h6 : ¬ (numS set ≤ 9)
  · exact ⟨kOd k, by rw [if_neg (show ¬ nI (numS set) ≤ 9 from nI_ge (a := 9) (by omega) (by omega)), if_neg (fun q => h6 q.2.2.2.2.2)]; rfl⟩
  replace h6 := Decidable.not_not.mp h6
  obtain ⟨i, hi, rfl⟩ := isN_of (by omega) h3
  obtain ⟨-, eh, hh, -⟩ := ho.1 p hpp
  obtain ⟨-, y2, -⟩ := hx.1 p hpp
  have hcn : cnN set (sN s 1) ≤ 9 := Nat.le_trans (numS_cn set hn) h6
  obtain ⟨p1, p2⟩ := al_lt hs hcn
  obtain ⟨x, s1, s2⟩ := X11_setOdds (ρ := ρ) hs hk hcn (show hitN s p < 2 ^ 20 by omega)
  obtain ⟨o1, o2⟩ := or_eq s set (hitN s p) hcn (show i ≤ 11 by omega)
  have hwk : wyN s set (hitN s p) (sN s 1) i ≤ alN s set (sN s 1) := by
    have := wy_sum s set (hitN s p) (sN s 1) 10 (by omega)
    rw [← this]
    exact smN_ge _ (by omega)
  refine ⟨x, ?_⟩
  rw [nN_nI (by omega), nN_nI (by omega), if_pos (show nI (numS set) ≤ 9 from nI_le (b := 9) h6 (by omega)), gI_tx (by omega) (Or.inl rfl), ob, y2, eh, hK_C, if_pos rfl, s1, ob, KR_8, ob, ob, gC_od, if_pos rfl, if_pos rfl, K_orMore (k := kuOd k x) s2 hcn (by omega) o2, K_exactly (k := kuOd k x) s2 hcn (by omega), bd2_some, bd2_some, KR_8, ob, ob, gL_od, ob, ob, o1, show (kOd (kuOd k x)).2.2 = lN (alN s set (sN s 1)) from s2.2.2.1, X11_partOf (by omega) (by omega) p1, X11_partOf (by omega) (by omega) p1, bd2_some, bd2_some]
  unfold oddsV
  by_cases h5 : isN part 2 = true
  · have hc : isN (nI p) (sN s 2) = true ∧ isN set (2 ^ sN s 1) = true ∧ isN (nI i) 10 = true ∧ isN what 2 = true ∧ isN part 2 = true ∧ numS set ≤ 9 := ⟨h1, h2, h3, h4, h5, h6⟩
    rw [if_pos hc, if_pos h5, if_pos h5]
    by_cases h : what = 0
    · rw [if_pos h, if_pos h]; rfl
    · rw [if_neg h, if_neg h]; rfl
  · have hc : ¬ (isN (nI p) (sN s 2) = true ∧ isN set (2 ^ sN s 1) = true ∧ isN (nI i) 10 = true ∧ isN what 2 = true ∧ isN part 2 = true ∧ numS set ≤ 9) := fun q => h5 q.2.2.2.2.1
    rw [if_neg hc, if_neg h5, if_neg h5]
    by_cases h : what = 0
    · rw [if_pos h]; rfl
    · rw [if_neg h]; rfl
theorem X11_bestOfMen (hs : sOk s) (hk : KR n s k B) (ho : txOk s tx) (hx : KX s tx k) {p : Nat} (hpp : p < sN s 2) {i : Nat} (hi : i < 10) (part : Int32) : ∃ x, f_X11_bestOfMen (hK n ρ k B) n (txA n (2 * p)) (nI i) part = some (if isN part 2 = true then bestV s (cntS s (tx p) p) (hitN s p) i part else NOl, hK n ρ (kuOd k x) B) := by
  have hp := hs.2.1
  have hn := hs.2.2.1
  have hn2 := hs.2.2.2.1
  obtain ⟨-, eh, hh, -⟩ := ho.1 p hpp
  obtain ⟨-, y2, -⟩ := hx.1 p hpp
  unfold f_X11_bestOfMen bestV
  rw [hK_C, if_pos rfl, X11_countS hs hk hx hpp, bd2_some, X_cntC hs, bd2_some]
  generalize hset : cntS s (tx p) p = set
  have h30 := numS_le set
  by_cases h6 : ¬ (numS set ≤ 9)
  · exact ⟨kOd k, by rw [if_neg (show ¬ nI (numS set) ≤ 9 from nI_ge (a := 9) (by omega) (by omega)), if_neg h6, ite_self]; rfl⟩
  replace h6 := Decidable.not_not.mp h6
  rw [if_pos (show nI (numS set) ≤ 9 from nI_le (b := 9) h6 (by omega)), if_pos h6]
  have hcn : cnN set (sN s 1) ≤ 9 := Nat.le_trans (numS_cn set hn) h6
  obtain ⟨p1, p2⟩ := al_lt hs hcn
  have hall := pr_al hs set (sN s 1) (Nat.le_refl _)
  have hle : prN (fun man => fewN s (manS s set man) (hitN s p) i) 6 ≤ alN s set (sN s 1) := by
    rw [← hall]
    refine prN_le (fun man _ => ?_)
    exact (or_eq s (manS s set man) (hitN s p) (by have := cnN_man hs set man; omega) (show i ≤ 11 by omega)).2
  have L : ∀ (d j f : Nat) (x : XO), j + d = 6 → d < f → ∃ x', f_X11_bestOfMen_L30 n (txA n (2 * p)) (nI i) set (f_X11_bestOfMen_K85 part) f (lN (prN (fun man => fewN s (manS s set man) (hitN s p) i) j)) (lN (prN (fun man => alN s (manS s set man) (sN s 1)) j)) (nI j) (hK n ρ (kuOd k x) B) = some (if isN part 2 = true then frL (alN s set (sN s 1) - prN (fun man => fewN s (manS s set man) (hitN s p) i) 6) (alN s set (sN s 1)) part else NOl, hK n ρ (kuOd k x') B) := by
    intro d
    induction d with
    | zero =>
      intro j f x hj hf
      obtain ⟨f, rfl⟩ : ∃ g, f = g + 1 := ⟨f - 1, by omega⟩
      refine ⟨x, ?_⟩
      rw [f_X11_bestOfMen_L30]
      unfold f_X11_bestOfMen_B30
      rw [if_pos (show (6 : Int32) ≤ nI j from nI_le (a := 6) (by omega) (by omega)), show j = 6 by omega]
      unfold f_X11_bestOfMen_K85
      rw [hall, lN_sub hle, X11_partOf (by omega) (by omega) p1, bd2_some]
      rfl
    | succ d ih =>
      intro j f x hj hf
      obtain ⟨f, rfl⟩ : ∃ g, f = g + 1 := ⟨f - 1, by omega⟩
      have hk2 : KR n s (kuOd k x) B := hk
      have hcm := Nat.le_trans (cnN_man hs set j) hcn
      obtain ⟨x2, s1, s2⟩ := X11_setOdds (ρ := ρ) hs hk2 hcm (show hitN s p < 2 ^ 20 by omega)
      obtain ⟨x3, g3⟩ := ih (j + 1) f x2 (by omega) (by omega)
      refine ⟨x3, ?_⟩
      have s1' : f_X11_setOdds (hK n ρ (kuOd k x) B) n (manS s set j) (nI (hitN s p)) = some (hK n ρ (kuOd k x2) B) := s1
      rw [f_X11_bestOfMen_L30]
      unfold f_X11_bestOfMen_B30
      rw [if_neg (show ¬ (6 : Int32) ≤ nI j from nI_ge (b := 6) (by omega) (by omega)), hK_C, if_pos rfl, X11_bitsOfMan hs hk2 (show j < 6 by omega), bd2_some, and_man s hs, gI_tx (by omega) (Or.inl rfl), ob, show (kTx (kuOd k x) (2 * p)).1 8 = nI (hitN s p) from y2.trans eh, hK_C, if_pos rfl, s1', ob, KR_8, ob, gC_od, if_pos rfl, K_fewer (k := kuOd k x2) s2 hcm (by omega), bd2_some, KR_8, ob, gL_od, ob, show (kOd (kuOd k x2)).2.2 = lN (alN s (manS s set j) (sN s 1)) from s2.2.2.1, lN_mul, lN_mul, nI_1]
      exact g3
  exact L 6 0 FU (kOd k) (by omega) (by show 6 < 100000; omega)
end CLS4
