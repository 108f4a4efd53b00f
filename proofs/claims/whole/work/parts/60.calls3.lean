/-! THE CLASS'S CALLS: says, cannot, fits, let, excuses, papers -/
theorem numS_cut {x : Int32} {N : Nat} (hN : N ≤ 30) (h : ∀ i, N ≤ i → i < 30 → bt x i = false) : numS x = smN (fun i => if bt x i then 1 else 0) N := by
  unfold numS
  rw [show (30 : Nat) = N + (30 - N) by omega, smN_split]
  have : smN (fun i => if bt x (N + i) = true then 1 else 0) (30 - N) = smN (fun _ => 0) (30 - N) := smN_cong (fun i hi => by rw [h (N + i) (by omega) (by omega)]; rfl)
  have z : ∀ n, smN (fun _ => 0) n = 0 := by
    intro n
    induction n with
    | zero => rfl
    | succ n ih => rw [smN_S, ih]
  rw [this, z]
  rfl
theorem smN_eq_iff {f g : Nat → Nat} : ∀ {n : Nat}, (∀ i, i < n → f i ≤ g i) → (smN f n = smN g n ↔ ∀ i, i < n → f i = g i) := by
  intro n
  induction n with
  | zero => intro _; exact ⟨fun _ i hi => absurd hi (by omega), fun _ => rfl⟩
  | succ n ih =>
    intro h
    have h1 := ih (fun i hi => h i (by omega))
    have h2 := h n (by omega)
    have h3 := smN_mono (n := n) (fun i hi => h i (by omega))
    rw [smN_S, smN_S]
    constructor
    · intro q i hi
      have e1 : smN f n = smN g n := by omega
      by_cases hin : i = n
      · subst hin; omega
      · exact h1.mp e1 i (by omega)
    · intro q
      rw [h1.mpr (fun i hi => q i (by omega)), q n (by omega)]
theorem b_m1 : ∀ i, i < 32 → bt (-1) i = true := by decide +kernel
theorem b_zero {x : Int32} : x = 0 ↔ ∀ i, i < 32 → bt x i = false := ⟨fun h i _ => by rw [h, b_0], fun h => b_ext (fun i hi => by rw [h i hi, b_0])⟩
theorem hm_comm (s : Nat → Int32) (hs : sOk s) (set : Int32) (hit man : Nat) : manS s (hitS s set hit) man = hitS s (manS s set man) hit := by
  have hn := hs.2.2.1
  apply b_ext
  intro i hi
  unfold manS
  rw [bits_bt _ _ (by omega) i hi, hitS_bt hs set hit hi, hitS_bt hs _ hit hi, bits_bt _ _ (by omega) i hi]
  cases bt set i <;> cases decide (i < sN s 1) <;> cases decide (tNear s i ≤ hit) <;> cases decide (tMan s i = man) <;> rfl
section CLS6
variable {n : Nat} {ρ : Nat → Nat} {s : Nat → Int32} {k : KK} {B : HSt} {tx : Nat → List Cl}
theorem X11_says (hs : sOk s) (hk : KR n s k B) (hx : KX s tx k) (l t : Int32) : f_X11_says (hK n ρ k B) n l t = some (if isN l (sN s 3) = true ∧ isN t (sN s 1) = true then sayI s (tx (5 + nN l)) (nN l) (nN t) else -1, hK n ρ k B) := by
  have hn := hs.2.2.1
  have hn3 := hs.2.2.2.2.1
  unfold f_X11_says
  rw [hK_C, if_pos rfl]
  by_cases h1 : isN l (sN s 3) = true
  · obtain ⟨l, hl, rfl⟩ := isN_of (by omega) h1
    rw [X11_lawN hs hk hl, bd2_some, oC_some, hK_C, if_pos rfl]
    by_cases h2 : isN t (sN s 1) = true
    · obtain ⟨t, ht, rfl⟩ := isN_of (by omega) h2
      obtain ⟨ad, ha, hT⟩ := hk.2.2.2.2 t ht
      have hc : isN (nI l) (sN s 3) = true ∧ isN (nI t) (sN s 1) = true := ⟨h1, h2⟩
      rw [X11_tryN hs hk ht ha, bd2_some, oC_some, hK_C, if_pos rfl, X11_saidBefore hs hk ht hT, bd2_some, KI_0, ob, hk.1, hs.1 0 (by omega), gC_tx (by omega), if_pos rfl, X11_lawful hs ht hT (by omega) (hx.2 l hl).1 l, bd2_some, if_pos hc, nN_nI (by omega), nN_nI (by omega)]
    · rw [X11_tryX hs hk h2, bd2_some, oC_none, if_neg (fun q => h2 q.2)]
  · rw [X11_lawX hs hk h1, bd2_some, oC_none, hK_C, if_pos rfl, if_neg (fun q => h1 q.1)]
    by_cases h2 : isN t (sN s 1) = true
    · obtain ⟨t, ht, rfl⟩ := isN_of (by omega) h2
      obtain ⟨ad, ha, hT⟩ := hk.2.2.2.2 t ht
      rw [X11_tryN hs hk ht ha, bd2_some, oC_some]
    · rw [X11_tryX hs hk h2, bd2_some, oC_none]
theorem X11_cannot (hs : sOk s) (hk : KR n s k B) (ho : txOk s tx) (hx : KX s tx k) (l : Int32) : f_X11_cannot (hK n ρ k B) n l = some (if isN l (sN s 3) = true then oI (fromN (fun t => !hasB s (tx (5 + nN l)) (nN l) t) (sN s 1) 0) else -1, hK n ρ k B) := by
  have hn := hs.2.2.1
  have hn3 := hs.2.2.2.2.1
  have e1 : k.1 2 = nI (sN s 1) := hk.2.1.trans (hs.1 1 (by omega))
  unfold f_X11_cannot
  rw [hK_C, if_pos rfl]
  by_cases h1 : ¬ isN l (sN s 3) = true
  · rw [X11_lawX hs hk h1, bd2_some, oC_none, if_neg h1]
  replace h1 := Decidable.not_not.mp h1
  obtain ⟨l, hl, rfl⟩ := isN_of (by omega) h1
  rw [X11_lawN hs hk hl, bd2_some, oC_some, if_pos h1, nN_nI (by omega), hK_C, if_pos rfl, X11_hasS hs hk ho hx hl, bd2_some]
  generalize hasB s (tx (5 + l)) l = P
  have L : ∀ (d i f : Nat), i + d = sN s 1 → d < f → f_X11_cannot_L21 n (bits P (sN s 1)) f_X11_cannot_K48 f (nI i) (hK n ρ k B) = some (oI (fromN (fun t => !P t) d i), hK n ρ k B) := by
    intro d
    induction d with
    | zero =>
      intro i f hi hf
      obtain ⟨f, rfl⟩ : ∃ g, f = g + 1 := ⟨f - 1, by omega⟩
      rw [f_X11_cannot_L21]
      unfold f_X11_cannot_B21
      rw [KI_2, ob, e1, if_pos (nI_le (by omega) (by omega))]
      rfl
    | succ d ih =>
      intro i f hi hf
      obtain ⟨f, rfl⟩ : ∃ g, f = g + 1 := ⟨f - 1, by omega⟩
      rw [f_X11_cannot_L21]
      unfold f_X11_cannot_B21
      have hb := bits_bt P (sN s 1) (by omega) i (by omega)
      rw [decide_eq_true (show i < sN s 1 by omega), Bool.true_and] at hb
      rw [KI_2, ob, e1, if_neg (nI_ge (by omega) (by omega)), nI_1, ih (i + 1) f (by omega) (by omega), fromN]
      cases h : P i
      · rw [if_pos ((b_ask0 _ (by omega)).mpr (by rw [hb, h])), if_pos (show (!false) = true from rfl)]; rfl
      · rw [if_neg (fun q => by have := (b_ask0 _ (by omega)).mp q; rw [hb, h] at this; cases this), if_neg (by decide)]
  exact L (sN s 1) 0 FU (by omega) (by show _ < 100000; omega)
theorem fit_num (hs : sOk s) (cl : List Cl) (l : Nat) (set : Int32) : fitN s cl l set = numS (bits (hasB s cl l) (sN s 1) &&& set) := by
  have hn := hs.2.2.1
  have hcut : ∀ i, sN s 1 ≤ i → i < 30 → bt (bits (hasB s cl l) (sN s 1) &&& set) i = false := fun i h1 h2 => by
    rw [b_and, bits_bt _ _ (by omega) i (by omega), decide_eq_false (by omega)]; rfl
  rw [numS_cut hn hcut]
  unfold fitN
  refine smN_cong (fun i hi => ?_)
  rw [b_and, bits_bt _ _ (by omega) i (by omega), decide_eq_true hi, Bool.true_and, Bool.and_comm]
theorem X11_fits (hs : sOk s) (hk : KR n s k B) (ho : txOk s tx) (hx : KX s tx k) (l set : Int32) : f_X11_fits (hK n ρ k B) n l set = some (if isN l (sN s 3) = true then (if isN set (2 ^ sN s 1) = true then nI (fitN s (tx (5 + nN l)) (nN l) set) else -2) else -1, hK n ρ k B) := by
  have hn := hs.2.2.1
  have hn3 := hs.2.2.2.2.1
  unfold f_X11_fits
  rw [hK_C, if_pos rfl]
  by_cases h1 : ¬ isN l (sN s 3) = true
  · rw [X11_lawX hs hk h1, bd2_some, oC_none, if_neg h1]
  replace h1 := Decidable.not_not.mp h1
  obtain ⟨l, hl, rfl⟩ := isN_of (by omega) h1
  rw [X11_lawN hs hk hl, bd2_some, oC_some, if_pos h1, nN_nI (by omega), hK_C, if_pos rfl, X11_isSet hs hk, bd2_some, bI_if]
  by_cases h2 : ¬ isN set (2 ^ sN s 1) = true
  · rw [if_neg h2, if_neg h2]
  replace h2 := Decidable.not_not.mp h2
  have z : ∀ i, 30 ≤ i → i < 32 → bt (bits (hasB s (tx (5 + l)) l) (sN s 1) &&& set) i = false := fun i h3 h4 => by
    rw [b_and, isN_bt hn h2 (by omega) h4, Bool.and_false]
  rw [if_pos h2, if_pos h2, hK_C, if_pos rfl, X11_hasS hs hk ho hx hl, bd2_some, X_bitCount _ _ (z 30 (by omega) (by omega)) (z 31 (by omega) (by omega)), bd2_some, fit_num hs]
theorem X11_let (hs : sOk s) (hk : KR n s k B) (ho : txOk s tx) (hx : KX s tx k) (set : Int32) : f_X11_let (hK n ρ k B) n set = some (if isN set (2 ^ sN s 1) = true then letS s tx set else -2, hK n ρ k B) := by
  have hn := hs.2.2.1
  have hn3 := hs.2.2.2.2.1
  have e3 : k.1 7 = nI (sN s 3) := hk.2.2.2.1.trans (hs.1 3 (by omega))
  unfold f_X11_let
  rw [hK_C, if_pos rfl, X11_isSet hs hk, bd2_some, bI_if]
  by_cases h2 : ¬ isN set (2 ^ sN s 1) = true
  · rw [if_neg h2, if_neg h2]
  replace h2 := Decidable.not_not.mp h2
  rw [if_pos h2, if_pos h2]
  unfold letS
  generalize hP : (fun l => decide (fitN s (tx (5 + l)) l set = numS set)) = P
  have L : ∀ (d i f : Nat), i + d = sN s 3 → d < f → f_X11_let_L15 n set f_X11_let_K60 f (bits P i) (nI i) (hK n ρ k B) = some (bits P (sN s 3), hK n ρ k B) := by
    intro d
    induction d with
    | zero =>
      intro i f hi hf
      obtain ⟨f, rfl⟩ : ∃ g, f = g + 1 := ⟨f - 1, by omega⟩
      rw [f_X11_let_L15]
      unfold f_X11_let_B15
      rw [KI_7, ob, e3, if_pos (nI_le (by omega) (by omega)), show i = sN s 3 by omega]
      rfl
    | succ d ih =>
      intro i f hi hf
      obtain ⟨f, rfl⟩ : ∃ g, f = g + 1 := ⟨f - 1, by omega⟩
      have hPi : P i = decide (fitN s (tx (5 + i)) i set = numS set) := by rw [← hP]
      have key : (set &&& (bits (hasB s (tx (5 + i)) i) (sN s 1) ^^^ (-1)) = 0) ↔ fitN s (tx (5 + i)) i set = numS set := by
        rw [numS_cut hn (fun j h3 h4 => isN_bt hn h2 h3 (by omega))]
        unfold fitN
        rw [smN_eq_iff (fun j hj => by cases bt set j <;> cases hasB s (tx (5 + i)) i j <;> simp), b_zero]
        constructor
        · intro h j hj
          have := h j (by omega)
          rw [b_and, b_xor, bits_bt _ _ (by omega) j (by omega), b_m1 j (by omega), decide_eq_true hj] at this
          cases h5 : bt set j <;> cases h6 : hasB s (tx (5 + i)) i j <;> simp_all
        · intro h j hj
          by_cases hjn : j < sN s 1
          · have := h j hjn
            rw [b_and, b_xor, bits_bt _ _ (by omega) j (by omega), b_m1 j (by omega), decide_eq_true hjn]
            cases h5 : bt set j <;> cases h6 : hasB s (tx (5 + i)) i j <;> simp_all
          · rw [b_and, isN_bt hn h2 (by omega) hj]; rfl
      rw [f_X11_let_L15]
      unfold f_X11_let_B15
      rw [KI_7, ob, e3, if_neg (nI_ge (by omega) (by omega)), hK_C, if_pos rfl, X11_lawN hs hk (show i < sN s 3 by omega), bd2_some, oC_some, hK_C, if_pos rfl, X11_hasS hs hk ho hx (show i < sN s 3 by omega), bd2_some, nI_1, ← ih (i + 1) f (by omega) (by omega)]
      simp only [bits, hPi]
      by_cases h : fitN s (tx (5 + i)) i set = numS set
      · rw [if_pos (key.mpr h), if_pos (decide_eq_true h)]
      · rw [if_neg (fun q => h (key.mp q)), if_neg (by simp [h])]
  exact L (sN s 3) 0 FU (by omega) (by show _ < 100000; omega)
theorem X11_excuses (hs : sOk s) (hk : KR n s k B) (ho : txOk s tx) (hx : KX s tx k) (a man what share : Int32) : f_X11_excuses (hK n ρ k B) n a man what share = some (if isN a (sN s 2) = true ∧ isN man 6 = true ∧ isN what 3 = true then (if isN share 101 = true then excI s (manS s (cntS s (tx (nN a)) (nN a)) (nN man)) (hitN s (nN a)) what (nN share) else -2) else -1, hK n ρ k B) := by
  have hp := hs.2.1
  have hn := hs.2.2.1
  have hn2 := hs.2.2.2.1
  unfold f_X11_excuses
  rw [hK_C, if_pos rfl]
  by_cases h1 : ¬ (isN a (sN s 2) = true)
  · rw [X11_planX hs hk h1, bd2_some, oC_none, if_neg (fun q => h1 q.1)]
  replace h1 := Decidable.not_not.mp h1
  obtain ⟨p, hpp, rfl⟩ := isN_of (by omega) h1
  rw [X11_planN hs hk hpp, bd2_some, oC_some, X11_isMan, bd2_some, bI_if]
  by_cases h2 : ¬ isN man 6 = true
  · rw [if_neg h2, if_neg (fun q => h2 q.2.1)]
  replace h2 := Decidable.not_not.mp h2
  rw [if_pos h2]
  by_cases h3 : ¬ isN what 3 = true
  · have hc : ¬ (isN (nI p) (sN s 2) = true ∧ isN man 6 = true ∧ isN what 3 = true) := fun q => h3 q.2.2
    rw [if_neg hc]
    rcases isN_false (by omega) h3 with h0 | ⟨h0, h5⟩
    · rw [if_pos h0]
    · have h6 : ¬ what ≤ 2 := fun q => by
        rw [Int32.le_iff_toInt_le] at *
        rw [show (nI 3).toInt = 3 from rfl] at h5
        rw [show (2 : Int32).toInt = 2 from rfl] at q
        omega
      rw [if_neg h0, if_neg h6]
  replace h3 := Decidable.not_not.mp h3
  have hc : isN (nI p) (sN s 2) = true ∧ isN man 6 = true ∧ isN what 3 = true := ⟨h1, h2, h3⟩
  obtain ⟨w, hw, rfl⟩ := isN_of (by omega) h3
  rw [if_neg (nI_pos (by omega)), if_pos (show nI w ≤ (2 : Int32) from nI_le (b := 2) (by omega) (by omega)), if_pos hc, X11_isPercent, bd2_some, bI_if]
  by_cases h4 : ¬ isN share 101 = true
  · rw [if_neg h4, if_neg h4]
  replace h4 := Decidable.not_not.mp h4
  obtain ⟨man, hm, rfl⟩ := isN_of (by omega) h2
  obtain ⟨share, hsh, rfl⟩ := isN_of (by omega) h4
  rw [if_pos h4, if_pos h4, nN_nI (by omega), nN_nI (by omega), nN_nI (by omega), hK_C, if_pos rfl, X11_bitsOfMan hs hk hm, bd2_some, hK_C, if_pos rfl, X11_hitBits hs hk ho hx hpp, bd2_some, and_man s hs, hm_comm s hs]
  have hcnt := X11_countS (ρ := ρ) hs hk hx hpp
  generalize cntS s (tx p) p = all at *
  generalize hset : manS s all man = set
  generalize hhits : hitS s set (hitN s p) = hits
  have hb : ∀ i, i < 32 → bt hits i = (decide (i < sN s 1) && (bt set i && decide (tNear s i ≤ hitN s p))) := fun i hi => by rw [← hhits]; exact hitS_bt hs set _ hi
  have hz : ∀ i, sN s 1 ≤ i → i < 32 → bt hits i = false := fun i h5 h6 => by rw [hb i h6, decide_eq_false (by omega)]; rfl
  have hcH : ∀ S, f_J6_bitCount_0f7a4 S hits = some (nI (numS hits), S) := fun S => by rw [← hhits]; exact X_hitC hs S set _
  have hcS : ∀ S, f_J6_bitCount_0f7a4 S set = some (nI (numS set), S) := fun S => by rw [← hset]; exact X_manC hs S all man
  have hcE : ∀ S, f_J6_bitCount_0f7a4 S (hits &&& (bits (fun t => decide (tExc s t = 2)) (sN s 1) ^^^ (-1))) = some (nI (numS (hits &&& (bits (fun t => decide (tExc s t = 2)) (sN s 1) ^^^ (-1)))), S) := fun S => X_bitCount S _ (by rw [b_and, hz 30 (by omega) (by omega)]; rfl) (by rw [b_and, hz 31 (by omega) (by omega)]; rfl)
  unfold excI
  rw [hhits]
  rcases (show w = 0 ∨ w = 1 ∨ w = 2 by omega) with rfl | rfl | rfl
  · rw [if_pos (show nI 0 = 0 from rfl), if_neg (show ¬ nI 0 = 2 by decide), hcH, bd2_some]
    refine congrArg some (Prod.ext (congrArg nI ?_) rfl)
    rw [numS_cut hn (fun i h5 h6 => hz i h5 (by omega))]
    unfold excN
    exact smN_cong (fun i hi => by simp [show nI 0 = (0 : Int32) from rfl])
  · rw [if_neg (show ¬ nI 1 = 0 by decide), if_pos (show nI 1 = 1 from rfl), if_neg (show ¬ nI 1 = 2 by decide), hK_C, if_pos rfl, X11_bitsExcusedAfter hs hk, bd2_some, hcE, bd2_some]
    refine congrArg some (Prod.ext (congrArg nI ?_) rfl)
    rw [numS_cut hn (fun i h5 h6 => by rw [b_and, hz i h5 (by omega)]; rfl)]
    unfold excN
    refine smN_cong (fun i hi => ?_)
    rw [b_and, b_xor, bits_bt _ _ (by omega) i (by omega), b_m1 i (by omega), decide_eq_true hi, decide_eq_false (show ¬ nI 1 = 0 by decide)]
    by_cases h : tExc s i = 2
    · simp [h]
    · simp [h]
  · rw [if_neg (show ¬ nI 2 = 0 by decide), if_neg (show ¬ nI 2 = 1 by decide), if_pos (show nI 2 = 2 from rfl), hK_C, if_pos rfl, hcnt, bd2_some, and_man s hs, hset, hcS, bd2_some, hcH, bd2_some, X11_leastLeftOut _ (numS_le _) (numS_le _) (by omega), bd2_some]
theorem X11_papers (hs : sOk s) (hk : KR n s k B) (ho : txOk s tx) (hx : KX s tx k) (a b what : Int32) : f_X11_papers (hK n ρ k B) n a b what = some (if isN a (sN s 2) = true ∧ isN b (sN s 2) = true ∧ isN what 3 = true then papI s tx (nN a) (nN b) what else -1, hK n ρ k B) := by
  have hp := hs.2.1
  have hn := hs.2.2.1
  have hn2 := hs.2.2.2.1
  unfold f_X11_papers
  rw [hK_C, if_pos rfl]
  by_cases h1 : ¬ (isN a (sN s 2) = true)
  · rw [X11_planX hs hk h1, bd2_some, oC_none, hK_C, if_pos rfl, if_neg (fun q => h1 q.1)]
    by_cases h2 : isN b (sN s 2) = true
    · obtain ⟨q, hq, rfl⟩ := isN_of (by omega) h2
      rw [X11_planN hs hk hq, bd2_some, oC_some]
    · rw [X11_planX hs hk h2, bd2_some, oC_none]
  replace h1 := Decidable.not_not.mp h1
  obtain ⟨p, hpp, rfl⟩ := isN_of (by omega) h1
  rw [X11_planN hs hk hpp, bd2_some, oC_some, hK_C, if_pos rfl]
  by_cases h2 : ¬ (isN b (sN s 2) = true)
  · rw [X11_planX hs hk h2, bd2_some, oC_none, if_neg (fun q => h2 q.2.1)]
  replace h2 := Decidable.not_not.mp h2
  obtain ⟨q, hq, rfl⟩ := isN_of (by omega) h2
  obtain ⟨-, eh, hh, en, hnn⟩ := ho.1 p hpp
  obtain ⟨-, y2, y3⟩ := hx.1 p hpp
  obtain ⟨-, eh2, hh2, en2, hnn2⟩ := ho.1 q hq
  obtain ⟨-, z2, z3⟩ := hx.1 q hq
  have c1 := X11_countS (ρ := ρ) hs hk hx hpp
  have c2 := X11_countS (ρ := ρ) hs hk hx hq
  have d1 := X11_hitBits (ρ := ρ) hs hk ho hx hpp
  have d2 := X11_hitBits (ρ := ρ) hs hk ho hx hq
  rw [X11_planN hs hk hq, bd2_some, oC_some, nN_nI (by omega), nN_nI (by omega)]
  unfold papI
  by_cases h3 : ¬ isN what 3 = true
  · have w0 : ¬ what = 0 := fun e => h3 (by rw [e]; decide)
    have w1 : ¬ what = 1 := fun e => h3 (by rw [e]; decide)
    have w2 : ¬ what = 2 := fun e => h3 (by rw [e]; decide)
    rw [if_neg w0, if_neg w1, if_neg w2, if_neg (fun z => h3 z.2.2)]
  replace h3 := Decidable.not_not.mp h3
  have hc : isN (nI p) (sN s 2) = true ∧ isN (nI q) (sN s 2) = true ∧ isN what 3 = true := ⟨h1, h2, h3⟩
  rw [if_pos hc]
  obtain ⟨w, hw, rfl⟩ := isN_of (by omega) h3
  rcases (show w = 0 ∨ w = 1 ∨ w = 2 by omega) with rfl | rfl | rfl
  · rw [if_pos (show nI 0 = 0 from rfl), if_neg (show ¬ nI 0 = 2 by decide), if_pos (show nI 0 = 0 from rfl), hK_C, if_pos rfl, c1, bd2_some, hK_C, if_pos rfl, c2, bd2_some]
  · rw [if_neg (show ¬ nI 1 = 0 by decide), if_pos (show nI 1 = 1 from rfl), if_neg (show ¬ nI 1 = 2 by decide), if_neg (show ¬ nI 1 = 0 by decide), hK_C, if_pos rfl, c1, bd2_some, hK_C, if_pos rfl, c2, bd2_some, hK_C, if_pos rfl, d1, bd2_some, hK_C, if_pos rfl, d2, bd2_some]
    refine congrArg some (Prod.ext ?_ rfl)
    apply b_ext
    intro i hi
    rw [b_and, b_and, b_xor, b_xor, hitS_bt hs _ _ hi, hitS_bt hs _ _ hi, hitS_bt hs _ _ hi, hitS_bt hs _ _ hi, b_and]
    unfold cntS
    rw [bits_bt _ _ (by omega) i hi, bits_bt _ _ (by omega) i hi]
    cases decide (i < sN s 1) <;> cases cntB s (tx p) p i <;> cases cntB s (tx q) q i <;> simp
  · rw [if_neg (show ¬ nI 2 = 0 by decide), if_neg (show ¬ nI 2 = 1 by decide), if_pos (show nI 2 = 2 from rfl), if_pos (show nI 2 = 2 from rfl), hK_C, if_pos rfl, d1, bd2_some, gI_tx (by omega) (Or.inr (Or.inl rfl)), ob, y3, en, hK_C, if_pos rfl, X11_passing hs hk ho hpp, bd2_some, hK_C, if_pos rfl, d2, bd2_some, gI_tx (by omega) (Or.inr (Or.inl rfl)), ob, z3, en2, hK_C, if_pos rfl, X11_passing hs hk ho hq, bd2_some]
end CLS6
