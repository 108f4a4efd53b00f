/-! THE CLASS'S CALLS: best, fixed, beats, otherwise, afterwards -/
section CLS5
variable {n : Nat} {ρ : Nat → Nat} {s : Nat → Int32} {k : KK} {B : HSt} {tx : Nat → List Cl}
theorem aloN_S (f : Nat → Bool) (g : Nat → Nat) (n : Nat) : aloN f g (n + 1) = match aloN f g n with
    | none => if f n = true then some n else none
    | some b => if f n = true ∧ g b < g n then some n else some b := rfl
theorem man_sub (s : Nat → Int32) (hs : sOk s) (set : Int32) (hit man : Nat) : hitS s set hit &&& manS s set man = manS s (hitS s set hit) man := by
  have hn := hs.2.2.1
  apply b_ext
  intro i hi
  unfold manS
  rw [b_and, bits_bt _ _ (by omega) i hi, bits_bt _ _ (by omega) i hi, hitS_bt hs set hit hi]
  cases bt set i <;> cases decide (i < sN s 1) <;> simp
theorem X11_bestAlone (hs : sOk s) (hk : KR n s k B) (ho : txOk s tx) (hx : KX s tx k) {p : Nat} (hpp : p < sN s 2) {i : Nat} (hi : i < 10) (part : Int32) : ∃ x, f_X11_bestAlone (hK n ρ k B) n (txA n (2 * p)) (nI i) part = some (if isN part 2 = true then aloV s (cntS s (tx p) p) (hitN s p) i part else NOl, hK n ρ (kuOd k x) B) := by
  have hp := hs.2.1
  have hn := hs.2.2.1
  have hn2 := hs.2.2.2.1
  obtain ⟨-, eh, hh, -⟩ := ho.1 p hpp
  obtain ⟨-, y2, -⟩ := hx.1 p hpp
  unfold f_X11_bestAlone aloV
  rw [hK_C, if_pos rfl, X11_countS hs hk hx hpp, bd2_some, gI_tx (by omega) (Or.inl rfl), ob, y2, eh, hK_C, if_pos rfl, X11_bitsNoFartherThan hs hk (by omega), bd2_some]
  generalize hset : cntS s (tx p) p = set
  generalize hfd : (fun man => decide (manS s set man ≠ 0)) = F
  generalize hgd : (fun man => numS (manS s (hitS s set (hitN s p)) man)) = G
  have L : ∀ (d j f : Nat), j + d = 6 → d < f → f_X11_bestAlone_L29 n (bits (fun t => decide (tNear s t ≤ hitN s p)) (sN s 1)) set (f_X11_bestAlone_K83 n (txA n (2 * p)) (nI i) part) f (match aloN F G j with | none => -1 | some b => nI (G b)) (match aloN F G j with | none => 0 | some b => manS s set b) (nI j) (hK n ρ k B) = f_X11_bestAlone_K83 n (txA n (2 * p)) (nI i) part (match aloN F G 6 with | none => 0 | some b => manS s set b) (hK n ρ k B) := by
    intro d
    induction d with
    | zero =>
      intro j f hj hf
      obtain ⟨f, rfl⟩ : ∃ g, f = g + 1 := ⟨f - 1, by omega⟩
      rw [f_X11_bestAlone_L29]
      unfold f_X11_bestAlone_B29
      rw [if_pos (show (6 : Int32) ≤ nI j from nI_le (a := 6) (by omega) (by omega)), show j = 6 by omega]
    | succ d ih =>
      intro j f hj hf
      obtain ⟨f, rfl⟩ : ∃ g, f = g + 1 := ⟨f - 1, by omega⟩
      have ihn := ih (j + 1) f (by omega) (by omega)
      have eF : F j = decide (manS s set j ≠ 0) := by rw [← hfd]
      have eG : G j = numS (manS s (hitS s set (hitN s p)) j) := by rw [← hgd]
      have hGl : ∀ b, G b ≤ 30 := fun b => by rw [← hgd]; exact numS_le _
      rw [f_X11_bestAlone_L29]
      unfold f_X11_bestAlone_B29
      rw [if_neg (show ¬ (6 : Int32) ≤ nI j from nI_ge (b := 6) (by omega) (by omega)), hK_C, if_pos rfl, X11_bitsOfMan hs hk (show j < 6 by omega), bd2_some, and_man s hs, and_hit s hs, man_sub s hs, X_manC hs, bd2_some, nI_1, ← ihn, ← eG]
      rw [aloN_S]
      by_cases h0 : manS s set j = 0
      · have eF2 : F j = false := by rw [eF]; simp [h0]
        rw [if_pos h0]
        cases h : aloN F G j with
        | none => simp only [eF2]; rfl
        | some b => simp only [eF2]; rfl
      · have eF2 : F j = true := by rw [eF]; simp [h0]
        rw [if_neg h0]
        cases h : aloN F G j with
        | none =>
          simp only [eF2, if_true]
          rw [if_neg (fun q => by
            have q1 : (nI (G j)).toInt ≤ (-1 : Int32).toInt := Int32.le_iff_toInt_le.mp q
            rw [nI_toInt (by have := hGl j; omega)] at q1
            have q2 : (-1 : Int32).toInt = -1 := by decide
            omega)]
        | some b =>
          simp only [eF2, true_and]
          have q1 := hGl j
          have q2 := hGl b
          by_cases hlt : G b < G j
          · rw [if_neg (nI_ge hlt (by omega)), if_pos hlt]
          · rw [if_pos (nI_le (by omega) (by omega)), if_neg hlt]
  rw [show f_X11_bestAlone_L29 n (bits (fun t => decide (tNear s t ≤ hitN s p)) (sN s 1)) set (f_X11_bestAlone_K83 n (txA n (2 * p)) (nI i) part) FU (-1) 0 0 (hK n ρ k B) = _ from L 6 0 FU (by omega) (by show 6 < 100000; omega)]
  unfold f_X11_bestAlone_K83
  cases hal : aloN F G 6 with
  | none =>
    refine ⟨kOd k, ?_⟩
    simp only []
    rw [if_pos trivial, ite_self]
    rfl
  | some b =>
    simp only []
    have hfb : ∀ m c, aloN F G m = some c → F c = true := by
      intro m
      induction m with
      | zero => intro c h; cases h
      | succ m ihm =>
        intro c h
        unfold aloN at h
        split at h
        · split at h
          · cases h; assumption
          · cases h
        · rename_i b2 h2
          split at h
          · rename_i hc
            cases h; exact hc.1
          · cases h; exact ihm _ h2
    have hb0 : manS s set b ≠ 0 := by
      have := hfb 6 b hal
      rw [← hfd] at this
      exact of_decide_eq_true this
    have h30 := numS_le (manS s set b)
    rw [if_neg hb0, X_manC hs, bd2_some]
    by_cases h6 : ¬ (numS (manS s set b) ≤ 9)
    · exact ⟨kOd k, by rw [if_neg (show ¬ nI (numS (manS s set b)) ≤ 9 from nI_ge (a := 9) (by omega) (by omega)), if_neg h6, ite_self]; rfl⟩
    replace h6 := Decidable.not_not.mp h6
    rw [if_pos (show nI (numS (manS s set b)) ≤ 9 from nI_le (b := 9) h6 (by omega)), if_pos h6, gI_tx (by omega) (Or.inl rfl), ob, y2, eh, hK_C, if_pos rfl]
    have hcn : cnN (manS s set b) (sN s 1) ≤ 9 := Nat.le_trans (numS_cn (manS s set b) hn) h6
    obtain ⟨p1, p2⟩ := al_lt hs hcn
    obtain ⟨x, s1, s2⟩ := X11_setOdds (ρ := ρ) hs hk hcn (show hitN s p < 2 ^ 20 by omega)
    obtain ⟨o1, o2⟩ := or_eq s (manS s set b) (hitN s p) hcn (show i ≤ 11 by omega)
    refine ⟨x, ?_⟩
    rw [s1, ob, KR_8, ob, gC_od, if_pos rfl, K_orMore (k := kuOd k x) s2 hcn (by omega) o2, bd2_some, KR_8, ob, gL_od, ob, o1, show (kOd (kuOd k x)).2.2 = lN (alN s (manS s set b) (sN s 1)) from s2.2.2.1, X11_partOf (by omega) (by omega) p1, bd2_some]
    rfl
theorem X11_best (hs : sOk s) (hk : KR n s k B) (ho : txOk s tx) (hx : KX s tx k) (a i what part : Int32) : ∃ x, f_X11_best (hK n ρ k B) n a i what part = some (if isN a (sN s 2) = true ∧ isN i 10 = true ∧ isN what 2 = true ∧ isN part 2 = true then (if what = 0 then bestV s (cntS s (tx (nN a)) (nN a)) (hitN s (nN a)) (nN i) part else aloV s (cntS s (tx (nN a)) (nN a)) (hitN s (nN a)) (nN i) part) else NOl, hK n ρ (kuOd k x) B) := by
  have hp := hs.2.1
  have hn := hs.2.2.1
  have hn2 := hs.2.2.2.1
  unfold f_X11_best
  rw [hK_C, if_pos rfl]
  by_cases h1 : ¬ (isN a (sN s 2) = true)
  · exact ⟨kOd k, by rw [X11_planX hs hk h1, bd2_some, oC_none, if_neg (fun q => h1 q.1)]; rfl⟩
  replace h1 := Decidable.not_not.mp h1
  obtain ⟨p, hpp, rfl⟩ := isN_of (by omega) h1
  rw [X11_planN hs hk hpp, bd2_some, oC_some, X11_isHitNumber, bd2_some, bI_if]
  by_cases h3 : ¬ (isN i 10 = true)
  · exact ⟨kOd k, by rw [if_neg h3, if_neg (fun q => h3 q.2.1)]; rfl⟩
  replace h3 := Decidable.not_not.mp h3
  rw [if_pos h3, X11_isOneOfTwo, bd2_some, bI_if]
  by_cases h4 : ¬ (isN what 2 = true)
  · exact ⟨kOd k, by rw [if_neg h4, if_neg (fun q => h4 q.2.2.1)]; rfl⟩
  replace h4 := Decidable.not_not.mp h4
  obtain ⟨i, hi, rfl⟩ := isN_of (by omega) h3
  rw [if_pos h4, nN_nI (by omega), nN_nI (by omega), hK_C, if_pos rfl, if_pos rfl]
  by_cases w : what = 0
  · obtain ⟨x, e⟩ := X11_bestOfMen (ρ := ρ) hs hk ho hx hpp hi part
    refine ⟨x, ?_⟩
    rw [if_pos w, if_pos w, e, bd2_some]
    by_cases h5 : isN part 2 = true
    · have hc : isN (nI p) (sN s 2) = true ∧ isN (nI i) 10 = true ∧ isN what 2 = true ∧ isN part 2 = true := ⟨h1, h3, h4, h5⟩
      rw [if_pos h5, if_pos hc]
    · have hc : ¬ (isN (nI p) (sN s 2) = true ∧ isN (nI i) 10 = true ∧ isN what 2 = true ∧ isN part 2 = true) := fun q => h5 q.2.2.2
      rw [if_neg h5, if_neg hc]
  · obtain ⟨x, e⟩ := X11_bestAlone (ρ := ρ) hs hk ho hx hpp hi part
    refine ⟨x, ?_⟩
    rw [if_neg w, if_neg w, e, bd2_some]
    by_cases h5 : isN part 2 = true
    · have hc : isN (nI p) (sN s 2) = true ∧ isN (nI i) 10 = true ∧ isN what 2 = true ∧ isN part 2 = true := ⟨h1, h3, h4, h5⟩
      rw [if_pos h5, if_pos hc]
    · have hc : ¬ (isN (nI p) (sN s 2) = true ∧ isN (nI i) 10 = true ∧ isN what 2 = true ∧ isN part 2 = true) := fun q => h5 q.2.2.2
      rw [if_neg h5, if_neg hc]
theorem X11_sumN (hs : sOk s) (hk : KR n s k B) (set : Int32) {p : Nat} (hp : p < 2 ^ 20) : f_X11_sumOfNears (hK n ρ k B) n set (nI p) = some (nI (sumN s set p), hK n ρ k B) := X11_sumOfNears hs hk set hp
theorem X11_ownN (hs : sOk s) (hk : KR n s k B) (set : Int32) : f_X11_sumOfOwnNears (hK n ρ k B) n set = some (nI (ownN s set), hK n ρ k B) := X11_sumOfOwnNears hs hk set
theorem X11_othN (hs : sOk s) (hk : KR n s k B) (set : Int32) {hit p : Nat} (hh : hit < 2 ^ 20) (hp : p < 2 ^ 20) : f_X11_hitsBySaying (hK n ρ k B) n set (nI hit) (nI p) = some (nI (othN s set hit p), hK n ρ k B) := X11_hitsBySaying hs hk set hh hp
theorem X11_fixed (hs : sOk s) (hk : KR n s k B) (ho : txOk s tx) (hx : KX s tx k) (a man : Int32) : f_X11_fixed (hK n ρ k B) n a man = some (if isN a (sN s 2) = true ∧ isN man 6 = true then (if manS s (cntS s (tx (nN a)) (nN a)) (nN man) = 0 then -5 else nI (amin (sumN s (manS s (cntS s (tx (nN a)) (nN a)) (nN man))) (sN s 0))) else -1, hK n ρ k B) := by
  have hp := hs.2.1
  have hn := hs.2.2.1
  have hn2 := hs.2.2.2.1
  unfold f_X11_fixed
  rw [hK_C, if_pos rfl]
  by_cases h1 : ¬ (isN a (sN s 2) = true)
  · rw [X11_planX hs hk h1, bd2_some, oC_none, if_neg (fun q => h1 q.1)]
  replace h1 := Decidable.not_not.mp h1
  obtain ⟨p, hpp, rfl⟩ := isN_of (by omega) h1
  rw [X11_planN hs hk hpp, bd2_some, oC_some, X11_isMan, bd2_some, bI_if]
  by_cases h2 : ¬ isN man 6 = true
  · rw [if_neg h2, if_neg (fun q => h2 q.2)]
  replace h2 := Decidable.not_not.mp h2
  have hc : isN (nI p) (sN s 2) = true ∧ isN man 6 = true := ⟨h1, h2⟩
  rw [if_pos h2, if_pos hc]
  obtain ⟨man, hm, rfl⟩ := isN_of (by omega) h2
  rw [nN_nI (by omega), nN_nI (by omega), hK_C, if_pos rfl, X11_countS hs hk hx hpp, bd2_some, hK_C, if_pos rfl, X11_bitsOfMan hs hk hm, bd2_some]
  generalize hA : cntS s (tx p) p = all
  generalize hBd : bits (fun t => decide (tMan s t = man)) (sN s 1) = his
  have hAB : all &&& his = manS s all man := by rw [← hBd, and_man s hs]
  rw [hAB]
  generalize hset : manS s all man = set at *
  by_cases h0 : set = 0
  · rw [if_pos h0, if_pos h0]
  rw [if_neg h0, if_neg h0, hK_C, if_pos rfl, show (0 : Int32) = nI 0 from rfl, X11_sumN hs hk set (by omega), bd2_some]
  generalize hG : sumN s set = G
  have hGl : ∀ x, x ≤ 100 → G x < 2 ^ 20 := fun x hx => by rw [← hG]; exact sumN_lt hs set hx
  have L : ∀ (d i f : Nat), 1 ≤ i → i + d = sN s 0 → d < f → f_X11_fixed_L55 n all his f_X11_fixed_K95 f (nI (amin G i)) (nI (G (amin G i))) (nI i) (hK n ρ k B) = some (nI (amin G (sN s 0)), hK n ρ k B) := by
    intro d
    induction d with
    | zero =>
      intro i f h1 hi hf
      obtain ⟨f, rfl⟩ : ∃ g, f = g + 1 := ⟨f - 1, by omega⟩
      rw [f_X11_fixed_L55]
      unfold f_X11_fixed_B55
      rw [KI_0, ob, hk.1, hs.1 0 (by omega), if_pos (nI_le (by omega) (by omega)), show i = sN s 0 by omega]
      rfl
    | succ d ih =>
      intro i f h1 hi hf
      obtain ⟨f, rfl⟩ : ∃ g, f = g + 1 := ⟨f - 1, by omega⟩
      have hb := amin_lt G i
      have q1 := hGl i (by omega)
      have q2 := hGl (amin G i) (by omega)
      rw [f_X11_fixed_L55]
      unfold f_X11_fixed_B55
      rw [KI_0, ob, hk.1, hs.1 0 (by omega), if_neg (nI_ge (by omega) (by omega)), hK_C, if_pos rfl, hAB, X11_sumN hs hk set (by omega), bd2_some, hG, nI_1, ← ih (i + 1) f (by omega) (by omega) (by omega)]
      by_cases h : G i < G (amin G i)
      · rw [if_neg (nI_ge h (by omega)), amin, if_pos h]
      · rw [if_pos (nI_le (Nat.not_lt.mp h) (by omega)), amin, if_neg h]
  have L1 := L (sN s 0 - 1) 1 FU (by omega) (by omega) (by show _ < 100000; omega)
  have a1 : amin G 1 = 0 := by simp [amin]
  rw [a1] at L1
  exact L1
theorem X11_beats (hs : sOk s) (hk : KR n s k B) (ho : txOk s tx) (hx : KX s tx k) (a : Int32) : f_X11_beats (hK n ρ k B) n a = some (if isN a (sN s 2) = true then beatS s (cntS s (tx (nN a)) (nN a)) else -1, hK n ρ k B) := by
  have hp := hs.2.1
  have hn := hs.2.2.1
  have hn2 := hs.2.2.2.1
  unfold f_X11_beats
  rw [hK_C, if_pos rfl]
  by_cases h1 : ¬ (isN a (sN s 2) = true)
  · rw [X11_planX hs hk h1, bd2_some, oC_none, if_neg h1]
  replace h1 := Decidable.not_not.mp h1
  obtain ⟨p, hpp, rfl⟩ := isN_of (by omega) h1
  rw [X11_planN hs hk hpp, bd2_some, oC_some, if_pos h1, nN_nI (by omega), hK_C, if_pos rfl, X11_countS hs hk hx hpp, bd2_some]
  generalize cntS s (tx p) p = all
  unfold beatS
  generalize hPd : (fun man => decide (manS s all man ≠ 0 ∧ ownN s (manS s all man) < sumN s (manS s all man) (sN s 0 / 2))) = P
  have L : ∀ (d i f : Nat), i + d = 6 → d < f → f_X11_beats_L24 n all f_X11_beats_K77 f (bits P i) (nI i) (hK n ρ k B) = some (bits P 6, hK n ρ k B) := by
    intro d
    induction d with
    | zero =>
      intro i f hi hf
      obtain ⟨f, rfl⟩ : ∃ g, f = g + 1 := ⟨f - 1, by omega⟩
      rw [f_X11_beats_L24]
      unfold f_X11_beats_B24
      rw [if_pos (show (6 : Int32) ≤ nI i from nI_le (a := 6) (by omega) (by omega)), show i = 6 by omega]
      rfl
    | succ d ih =>
      intro i f hi hf
      obtain ⟨f, rfl⟩ : ∃ g, f = g + 1 := ⟨f - 1, by omega⟩
      have q1 := ownN_lt hs (manS s all i)
      have q2 := sumN_lt hs (manS s all i) (show sN s 0 / 2 ≤ 100 by omega)
      have hPi : P i = decide (manS s all i ≠ 0 ∧ ownN s (manS s all i) < sumN s (manS s all i) (sN s 0 / 2)) := by rw [← hPd]
      have ediv : nI (sN s 0) / 2 = nI (sN s 0 / 2) := pk_div (d := 2) (by omega) (by omega) (by omega)
      have hz : manS s all i = 0 → sumN s (manS s all i) (sN s 0 / 2) = 0 := fun h => by
        rw [h]
        unfold sumN
        have : ∀ N, smN (fun t => if bt 0 t then dist (tPipe s t) (sN s 0 / 2) else 0) N = 0 := by
          intro N
          induction N with
          | zero => rfl
          | succ N ihN => rw [smN_S, ihN, b_0]; rfl
        exact this _
      rw [f_X11_beats_L24]
      unfold f_X11_beats_B24
      rw [if_neg (show ¬ (6 : Int32) ≤ nI i from nI_ge (b := 6) (by omega) (by omega)), hK_C, if_pos rfl, X11_bitsOfMan hs hk (show i < 6 by omega), bd2_some, and_man s hs, hK_C, if_pos rfl, X11_ownN hs hk, bd2_some, KI_0, ob, hk.1, hs.1 0 (by omega), hK_C, if_pos rfl, ediv, X11_sumN hs hk _ (by omega), bd2_some, nI_1, ← ih (i + 1) f (by omega) (by omega)]
      simp only [bits, hPi]
      by_cases h : ownN s (manS s all i) < sumN s (manS s all i) (sN s 0 / 2)
      · have h0 : manS s all i ≠ 0 := fun q => by rw [hz q] at h; omega
        rw [if_neg (nI_ge h (by omega)), if_pos (decide_eq_true ⟨h0, h⟩)]
      · rw [if_pos (nI_le (Nat.not_lt.mp h) (by omega)), if_neg (by simp [h])]
  exact L 6 0 FU (by omega) (by show 6 < 100000; omega)
theorem X11_otherwise (hs : sOk s) (hk : KR n s k B) (ho : txOk s tx) (hx : KX s tx k) (a : Int32) : f_X11_otherwise (hK n ρ k B) n a = some (if isN a (sN s 2) = true then (if cntS s (tx (nN a)) (nN a) = 0 then -5 else nI (amax (othN s (cntS s (tx (nN a)) (nN a)) (hitN s (nN a))) (sN s 0))) else -1, hK n ρ k B) := by
  have hp := hs.2.1
  have hn := hs.2.2.1
  have hn2 := hs.2.2.2.1
  unfold f_X11_otherwise
  rw [hK_C, if_pos rfl]
  by_cases h1 : ¬ (isN a (sN s 2) = true)
  · rw [X11_planX hs hk h1, bd2_some, oC_none, if_neg h1]
  replace h1 := Decidable.not_not.mp h1
  obtain ⟨p, hpp, rfl⟩ := isN_of (by omega) h1
  obtain ⟨-, eh, hh, -⟩ := ho.1 p hpp
  obtain ⟨-, y2, -⟩ := hx.1 p hpp
  rw [X11_planN hs hk hpp, bd2_some, oC_some, if_pos h1, nN_nI (by omega), hK_C, if_pos rfl, X11_countS hs hk hx hpp, bd2_some]
  generalize cntS s (tx p) p = set
  by_cases h0 : set = 0
  · rw [if_pos h0, if_pos h0]
  rw [if_neg h0, if_neg h0, gI_tx (by omega) (Or.inl rfl), ob, y2, eh, hK_C, if_pos rfl, show (0 : Int32) = nI 0 from rfl, X11_othN hs hk set (by omega) (by omega), bd2_some]
  generalize hG : othN s set (hitN s p) = G
  have hGl : ∀ x, G x ≤ 30 := fun x => by rw [← hG]; exact othN_le hs set _ x
  have L : ∀ (d i f : Nat), 1 ≤ i → i + d = sN s 0 → d < f → f_X11_otherwise_L43 n (txA n (2 * p)) set f_X11_otherwise_K86 f (nI (amax G i)) (nI (G (amax G i))) (nI i) (hK n ρ k B) = some (nI (amax G (sN s 0)), hK n ρ k B) := by
    intro d
    induction d with
    | zero =>
      intro i f h1 hi hf
      obtain ⟨f, rfl⟩ : ∃ g, f = g + 1 := ⟨f - 1, by omega⟩
      rw [f_X11_otherwise_L43]
      unfold f_X11_otherwise_B43
      rw [KI_0, ob, hk.1, hs.1 0 (by omega), if_pos (nI_le (by omega) (by omega)), show i = sN s 0 by omega]
      rfl
    | succ d ih =>
      intro i f h1 hi hf
      obtain ⟨f, rfl⟩ : ∃ g, f = g + 1 := ⟨f - 1, by omega⟩
      have hb := amax_lt G i
      have q1 := hGl i
      have q2 := hGl (amax G i)
      rw [f_X11_otherwise_L43]
      unfold f_X11_otherwise_B43
      rw [KI_0, ob, hk.1, hs.1 0 (by omega), if_neg (nI_ge (by omega) (by omega)), gI_tx (by omega) (Or.inl rfl), ob, y2, eh, hK_C, if_pos rfl, X11_othN hs hk set (by omega) (by omega), bd2_some, hG, nI_1, ← ih (i + 1) f (by omega) (by omega) (by omega)]
      by_cases h : G (amax G i) < G i
      · rw [if_neg (nI_ge h (by omega)), amax, if_pos h]
      · rw [if_pos (nI_le (Nat.not_lt.mp h) (by omega)), amax, if_neg h]
  have L1 := L (sN s 0 - 1) 1 FU (by omega) (by omega) (by show _ < 100000; omega)
  have a1 : amax G 1 = 0 := by simp [amax]
  rw [a1] at L1
  exact L1
theorem X11_waysAsGood (hs : sOk s) (hk : KR n s k B) {set : Int32} (hc : cnN set (sN s 1) ≤ 9) (hc2 : numS set ≤ 9) {hit : Nat} (hh : hit < 2 ^ 20) : ∃ x, f_X11_waysAsGood (hK n ρ k B) n set (nI hit) = some (lN (aftN s set hit), hK n ρ (kuOd k x) B) := by
  obtain ⟨x, s1, s2⟩ := X11_setOdds (ρ := ρ) hs hk hc hh
  have hle := hitS_le hs set hit
  obtain ⟨o1, o2⟩ := or_eq s set hit hc (show numS (hitS s set hit) ≤ 11 by omega)
  refine ⟨x, ?_⟩
  have hk2 : KR n s (kuOd k x) B := hk
  unfold f_X11_waysAsGood
  rw [hK_C, if_pos rfl, s1, ob, KR_8, ob, hK_C, if_pos rfl, X11_bitsNoFartherThan hs hk2 hh, bd2_some, and_hit s hs, X_hitC hs, bd2_some, gC_od, if_pos rfl, K_orMore (k := kuOd k x) s2 hc (by omega) o2, bd2_some, o1]
  rfl
theorem X11_afterwards (hs : sOk s) (hk : KR n s k B) (ho : txOk s tx) (hx : KX s tx k) (a man : Int32) : ∃ x, f_X11_afterwards (hK n ρ k B) n a man = some (if isN a (sN s 2) = true ∧ isN man 6 = true then (if manS s (cntS s (tx (nN a)) (nN a)) (nN man) = 0 ∨ ¬ numS (manS s (cntS s (tx (nN a)) (nN a)) (nN man)) ≤ 9 then -5 else nI (amin (aftN s (manS s (cntS s (tx (nN a)) (nN a)) (nN man))) 10)) else -1, hK n ρ (kuOd k x) B) := by
  have hp := hs.2.1
  have hn := hs.2.2.1
  have hn2 := hs.2.2.2.1
  unfold f_X11_afterwards
  rw [hK_C, if_pos rfl]
  by_cases h1 : ¬ (isN a (sN s 2) = true)
  · exact ⟨kOd k, by rw [X11_planX hs hk h1, bd2_some, oC_none, if_neg (fun q => h1 q.1)]⟩
  replace h1 := Decidable.not_not.mp h1
  obtain ⟨p, hpp, rfl⟩ := isN_of (by omega) h1
  rw [X11_planN hs hk hpp, bd2_some, oC_some, X11_isMan, bd2_some, bI_if]
  by_cases h2 : ¬ isN man 6 = true
  · exact ⟨kOd k, by rw [if_neg h2, if_neg (fun q => h2 q.2)]⟩
  replace h2 := Decidable.not_not.mp h2
  have hc : isN (nI p) (sN s 2) = true ∧ isN man 6 = true := ⟨h1, h2⟩
  rw [if_pos h2, if_pos hc]
  obtain ⟨man, hm, rfl⟩ := isN_of (by omega) h2
  rw [nN_nI (by omega), nN_nI (by omega), hK_C, if_pos rfl, X11_countS hs hk hx hpp, bd2_some, hK_C, if_pos rfl, X11_bitsOfMan hs hk hm, bd2_some]
  generalize hA : cntS s (tx p) p = all
  generalize hBd : bits (fun t => decide (tMan s t = man)) (sN s 1) = his
  have hAB : all &&& his = manS s all man := by rw [← hBd, and_man s hs]
  have hbc : ∀ S, f_J6_bitCount_0f7a4 S (all &&& his) = some (nI (numS (all &&& his)), S) := fun S => by rw [hAB]; exact X_manC hs S all man
  rw [hbc, bd2_some, hAB]
  generalize hset : manS s all man = set at *
  by_cases h0 : set = 0
  · exact ⟨kOd k, by rw [if_pos h0, if_pos (Or.inl h0)]⟩
  have h30 := numS_le set
  rw [if_neg h0]
  by_cases h6 : ¬ (numS set ≤ 9)
  · exact ⟨kOd k, by rw [if_neg (show ¬ nI (numS set) ≤ 9 from nI_ge (a := 9) (by omega) (by omega)), if_pos (Or.inr h6)]⟩
  have hne : ¬ (set = 0 ∨ ¬ numS set ≤ 9) := fun q => q.elim h0 h6
  replace h6 := Decidable.not_not.mp h6
  rw [if_neg hne, if_pos (show nI (numS set) ≤ 9 from nI_le (b := 9) h6 (by omega)), hK_C, if_pos rfl]
  have hcn : cnN set (sN s 1) ≤ 9 := Nat.le_trans (numS_cn set hn) h6
  obtain ⟨p1, p2⟩ := al_lt hs hcn
  generalize hG : aftN s set = G
  have hGl : ∀ h, G h < 2 ^ 62 := fun h => by
    have := or_fewer s set h (sN s 1) (by omega) (show numS (hitS s set h) ≤ 11 by have := hitS_le hs set h; omega)
    rw [← hG]
    show orN _ _ < _
    omega
  have L : ∀ (d i f : Nat) (x : XO), 1 ≤ i → i + d = 10 → d < f → ∃ x', f_X11_afterwards_L65 n all his f_X11_afterwards_K104 f (nI (amin G i)) (lN (G (amin G i))) (nI i) (hK n ρ (kuOd k x) B) = some (nI (amin G 10), hK n ρ (kuOd k x') B) := by
    intro d
    induction d with
    | zero =>
      intro i f x h1 hi hf
      obtain ⟨f, rfl⟩ : ∃ g, f = g + 1 := ⟨f - 1, by omega⟩
      refine ⟨x, ?_⟩
      rw [f_X11_afterwards_L65]
      unfold f_X11_afterwards_B65
      rw [if_pos (show (9 : Int32) < nI i from nI_lt (a := 9) (by omega) (by omega)), show i = 10 by omega]
      rfl
    | succ d ih =>
      intro i f x h1 hi hf
      obtain ⟨f, rfl⟩ : ∃ g, f = g + 1 := ⟨f - 1, by omega⟩
      have hk2 : KR n s (kuOd k x) B := hk
      obtain ⟨x2, w⟩ := X11_waysAsGood (ρ := ρ) hs hk2 hcn h6 (show i < 2 ^ 20 by omega)
      have w : f_X11_waysAsGood (hK n ρ (kuOd k x) B) n set (nI i) = some (lN (aftN s set i), hK n ρ (kuOd k x2) B) := w
      obtain ⟨x3, g3⟩ := ih (i + 1) f x2 (by omega) (by omega) (by omega)
      refine ⟨x3, ?_⟩
      have hb := amin_lt G i
      have q1 := hGl i
      have q2 := hGl (amin G i)
      rw [f_X11_afterwards_L65]
      unfold f_X11_afterwards_B65
      rw [if_neg (show ¬ (9 : Int32) < nI i from nI_nlt (b := i) (a := 9) (by omega) (by omega)), hK_C, if_pos rfl, hAB, w, bd2_some, hG, nI_1, ← g3]
      by_cases h : G i < G (amin G i)
      · have hg : ¬ 0 ≤ lg_cmp (lN (G i)) (lN (G (amin G i))) := fun q => by
          have := (pk_lLE (by omega) (by omega)).mp ((lg_cmp_ge _ _).mp q)
          omega
        rw [if_neg hg, amin, if_pos h]
      · have hg : 0 ≤ lg_cmp (lN (G i)) (lN (G (amin G i))) := (lg_cmp_ge _ _).mpr ((pk_lLE (by omega) (by omega)).mpr (by omega))
        rw [if_pos hg, amin, if_neg h]
  obtain ⟨x1, w⟩ := X11_waysAsGood (ρ := ρ) hs hk hcn h6 (show 0 < 2 ^ 20 by omega)
  obtain ⟨x2, g2⟩ := L 9 1 FU x1 (by omega) (by omega) (by show 9 < 100000; omega)
  refine ⟨x2, ?_⟩
  have a1 : amin G 1 = 0 := by simp [amin]
  rw [a1] at g2
  rw [show (0 : Int32) = nI 0 from rfl, w, bd2_some, hG]
  exact g2
end CLS5
