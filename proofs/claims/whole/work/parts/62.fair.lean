/-! BOTH: fair -/
def bwN (P c : Nat) : Nat → Nat → Nat
  | 0, k => if k = 0 then 1 else 0
  | t + 1, k => addW P c (bwN P c t) k
def binN : Nat → Nat → Nat
  | _, 0 => 1
  | 0, _ + 1 => 0
  | n + 1, k + 1 => binN n k + binN n (k + 1)
theorem bin_0 : ∀ n, binN n 0 = 1 := by
  intro n
  cases n <;> rfl
theorem bin_gt : ∀ n k, n < k → binN n k = 0 := by
  intro n
  induction n with
  | zero =>
    intro k h
    obtain ⟨k, rfl⟩ : ∃ j, k = j + 1 := ⟨k - 1, by omega⟩
    rfl
  | succ n ih =>
    intro k h
    obtain ⟨k, rfl⟩ : ∃ j, k = j + 1 := ⟨k - 1, by omega⟩
    show binN n k + binN n (k + 1) = 0
    rw [ih k (by omega), ih (k + 1) (by omega)]
theorem bw_gt (P c : Nat) : ∀ t k, t < k → bwN P c t k = 0 := by
  intro t
  induction t with
  | zero =>
    intro k h
    show (if k = 0 then 1 else 0) = 0
    rw [if_neg (by omega)]
  | succ t ih =>
    intro k h
    show addW P c (bwN P c t) k = 0
    unfold addW
    rw [ih k (by omega), ih (k - 1) (by omega)]
    simp
theorem bw_bin (P c : Nat) : ∀ t i, i ≤ t → bwN P c t i = binN t i * c ^ i * (P - c) ^ (t - i) := by
  intro t
  induction t with
  | zero =>
    intro i hi
    rw [show i = 0 by omega]
    rfl
  | succ t ih =>
    intro i hi
    show addW P c (bwN P c t) i = _
    unfold addW
    rcases i with _ | j
    · rw [ih 0 (by omega), bin_0, bin_0, if_pos rfl]
      simp [Nat.pow_succ]
    · rw [if_neg (by omega), Nat.add_sub_cancel, ih j (by omega), show t + 1 - (j + 1) = t - j by omega]
      show _ = (binN t j + binN t (j + 1)) * c ^ (j + 1) * (P - c) ^ (t - j)
      by_cases h : j + 1 ≤ t
      · rw [ih (j + 1) h, show t - j = t - (j + 1) + 1 by omega, Nat.pow_succ c, Nat.pow_succ (P - c)]
        generalize (P - c) ^ (t - (j + 1)) = X
        generalize c ^ j = Y
        generalize binN t j = U
        generalize binN t (j + 1) = V
        generalize P - c = Z
        rw [Nat.add_mul, Nat.add_mul, Nat.add_comm]
        congr 1
        · simp only [Nat.mul_assoc, Nat.mul_comm, Nat.mul_left_comm]
        · simp only [Nat.mul_assoc, Nat.mul_comm, Nat.mul_left_comm]
      · rw [bw_gt P c t (j + 1) (by omega), bin_gt t (j + 1) (by omega), Nat.zero_mul, Nat.zero_add, Nat.add_zero, Nat.pow_succ c]
        simp only [Nat.mul_assoc, Nat.mul_comm, Nat.mul_left_comm]
theorem bw_sum {P c : Nat} (hc : c ≤ P) : ∀ t, smN (bwN P c t) (t + 1) = P ^ t := by
  intro t
  induction t with
  | zero => rfl
  | succ t ih =>
    have e1 : smN (bwN P c (t + 1)) (t + 1 + 1) = smN (fun k => bwN P c t k * (P - c) + (if k = 0 then 0 else bwN P c t (k - 1)) * c) (t + 1 + 1) := smN_cong (fun i _ => by
      show addW P c (bwN P c t) i = _
      unfold addW
      by_cases h : i = 0 <;> simp [h])
    rw [e1, smN_add, smN_mul, smN_mul, smN_shift, smN_S, bw_gt P c t (t + 1) (by omega), Nat.add_zero, ih, ← Nat.mul_add, show P - c + c = P by omega, Nat.pow_succ]
theorem sm_le (f : Nat → Nat) {a b : Nat} (h : a ≤ b) : smN f a ≤ smN f b := by
  obtain ⟨d, rfl⟩ : ∃ d, b = a + d := ⟨b - a, by omega⟩
  rw [smN_split]
  omega
theorem bw_le {P c : Nat} (hc : c ≤ P) (t k : Nat) (hk : k ≤ t + 1) : smN (bwN P c t) k ≤ P ^ t := by
  rw [← bw_sum hc t]
  exact sm_le _ hk
theorem p100 {P t : Nat} (hP : P ≤ 100) (ht : t ≤ 6) : P ^ t ≤ 1000000000000 := by
  have h1 : P ^ t ≤ 100 ^ t := Nat.pow_le_pow_left hP t
  have h2 : 100 ^ t ≤ 100 ^ 6 := Nat.pow_le_pow_right (by omega) ht
  have h3 : (100 : Nat) ^ 6 = 1000000000000 := by decide
  omega
theorem bin_st : ∀ n, n ≤ 6 → ∀ i, i < n → binN n i * (n - i) / (i + 1) = binN n (i + 1) ∧ binN n i ≤ 100 := by decide +kernel
theorem X12_choose (S : HSt) {m k : Nat} (hm : m ≤ 6) (hk : k ≤ m) : f_X12_choose S (nI m) (nI k) = some (lN (binN m k), S) := by
  unfold f_X12_choose
  have L : ∀ (d i f : Nat), i + d = k → d < f → f_X12_choose_L5 (nI m) (nI k) f_X12_choose_K31 f (lN (binN m i)) (nI i) S = some (lN (binN m k), S) := by
    intro d
    induction d with
    | zero =>
      intro i f hi hf
      obtain ⟨f, rfl⟩ : ∃ g, f = g + 1 := ⟨f - 1, by omega⟩
      rw [f_X12_choose_L5]
      unfold f_X12_choose_B5
      rw [if_pos (nI_le (by omega) (by omega)), show i = k by omega]
      rfl
    | succ d ih =>
      intro i f hi hf
      obtain ⟨f, rfl⟩ : ∃ g, f = g + 1 := ⟨f - 1, by omega⟩
      obtain ⟨q1, q2⟩ := bin_st m hm i (by omega)
      have q3 : binN m i * (m - i) ≤ 100 * 6 := Nat.mul_le_mul q2 (by omega)
      rw [f_X12_choose_L5]
      unfold f_X12_choose_B5
      rw [if_neg (nI_ge (by omega) (by omega)), nI_1, nI_l (by omega), nI_subN (by omega), nI_l (by omega), lN_mul, pk_lDiv (by omega) (by omega) (by omega), q1, if_pos (fun q => by have := (pk_lEQ (b := 0) (show i + 1 < 2 ^ 63 by omega) (by omega)).mp q; omega), hqn_eq]
      exact ih (i + 1) f (by omega) (by omega)
  have L0 := L k 0 FU (by omega) (by show k < 100000; omega)
  rw [bin_0] at L0
  exact L0
theorem X12_fewer (S : HSt) {k m a P : Nat} (hm : m ≤ 6) (hk : k ≤ m) (ha : a ≤ P) (hP : P ≤ 100) : f_X12_fewer S (nI k) (nI m) (nI a) (nI P) = some (lN (smN (bwN P a m) k), S) := by
  unfold f_X12_fewer
  have L : ∀ (d i f : Nat), i + d = k → d < f → f_X12_fewer_L6 (nI k) (nI m) (nI a) (nI P) f_X12_fewer_K49 f (lN (smN (bwN P a m) i)) (nI i) S = some (lN (smN (bwN P a m) k), S) := by
    intro d
    induction d with
    | zero =>
      intro i f hi hf
      obtain ⟨f, rfl⟩ : ∃ g, f = g + 1 := ⟨f - 1, by omega⟩
      rw [f_X12_fewer_L6]
      unfold f_X12_fewer_B6
      rw [if_pos (nI_le (by omega) (by omega)), show i = k by omega]
      rfl
    | succ d ih =>
      intro i f hi hf
      obtain ⟨f, rfl⟩ : ∃ g, f = g + 1 := ⟨f - 1, by omega⟩
      rw [f_X12_fewer_L6]
      unfold f_X12_fewer_B6
      rw [if_neg (nI_ge (by omega) (by omega)), X12_choose S hm (by omega), bd2_some, nI_l (by omega), X12_power S a (by omega), bd2_some, nI_subN ha, nI_l (by omega), nI_subN (by omega), X12_power S (P - a) (by omega), bd2_some, lN_mul, lN_mul, ← bw_bin P a m i (by omega), lN_add, nI_1]
      exact ih (i + 1) f (by omega) (by omega)
  exact L k 0 FU (by omega) (by show k < 100000; omega)
/-- may t tries with need k be asked -/
def fairC (P c f a b t k : Nat) : Bool := decide (smN (bwN 100 f t) k * 100 ≤ a * 100 ^ t) && decide ((P ^ t - smN (bwN P c t) k) * 100 ≤ b * P ^ t)
def fairO (C : Nat → Nat → Bool) : Nat → Nat → Int32
  | 0, _ => -5
  | d + 1, t => match fromN (C t) (t + 1) 0 with
    | some k => nI (10 * t + k)
    | none => fairO C d (t + 1)
def fairI (s : Nat → Int32) (hit place f a b : Int32) : Int32 := if isN place (sN s 0) = true then (if isN hit 100 = true ∧ isN f 101 = true ∧ isN a 101 = true ∧ isN b 101 = true then fairO (fairC (sN s 0) (pbN s (nN place) (nN hit)) (nN f) (nN a) (nN b)) 6 1 else -2) else -1
section FAIR
variable {P c f a b t : Nat}
theorem fair_b (hc : c ≤ P) (hP : P ≤ 100) (hf : f ≤ 100) (ha : a ≤ 100) (hb : b ≤ 100) (ht : t ≤ 6) {k : Nat} (hk : k ≤ t + 1) : smN (bwN 100 f t) k * 100 < 2 ^ 62 ∧ a * 100 ^ t < 2 ^ 62 ∧ (P ^ t - smN (bwN P c t) k) * 100 < 2 ^ 62 ∧ b * P ^ t < 2 ^ 62 ∧ smN (bwN P c t) k ≤ P ^ t := by
  have h1 := bw_le hf t k hk
  have h2 := bw_le hc t k hk
  have h3 := p100 hP ht
  have h4 := p100 (P := 100) (by omega) ht
  have h5 : a * 100 ^ t ≤ 100 * 1000000000000 := Nat.mul_le_mul ha h4
  have h6 : b * P ^ t ≤ 100 * 1000000000000 := Nat.mul_le_mul hb h3
  omega
theorem lg_gtN {x y : Nat} (hx : x < 2 ^ 62) (hy : y < 2 ^ 62) : (0 < lg_cmp (lN x) (lN y)) ↔ ¬ x ≤ y := by
  rw [lg_cmp_gt, pk_lLT (by omega) (by omega)]
  omega
theorem X12_fairK (hc : c ≤ P) (hP : P ≤ 100) (hf : f ≤ 100) (ha : a ≤ 100) (hb : b ≤ 100) (ht : t ≤ 6) (K : HSt → Option (Int32 × HSt)) (S : HSt) : ∀ (d i g : Nat), i + d = t + 1 → d < g → f_X12_fair_L84 (nI f) (nI a) (nI b) (nI c) (nI P) (nI t) K g (nI i) S = match fromN (fairC P c f a b t) d i with | some k => some (nI (10 * t + k), S) | none => K S := by
  intro d
  induction d with
  | zero =>
    intro i g hi hg
    obtain ⟨g, rfl⟩ : ∃ e, g = e + 1 := ⟨g - 1, by omega⟩
    rw [f_X12_fair_L84]
    unfold f_X12_fair_B84
    rw [if_pos (nI_lt (by omega) (by omega))]
    rfl
  | succ d ih =>
    intro i g hi hg
    obtain ⟨g, rfl⟩ : ∃ e, g = e + 1 := ⟨g - 1, by omega⟩
    obtain ⟨b1, b2, b3, b4, b5⟩ := fair_b hc hP hf ha hb ht (k := i) (by omega)
    rw [f_X12_fair_L84]
    unfold f_X12_fair_B84
    rw [if_neg (nI_nlt (by omega) (by omega)), show (100 : Int32) = nI 100 from rfl, X12_fewer S ht (by omega) hf (by omega), bd2_some, nI_l (by omega), X12_power S P (by omega), bd2_some, X12_fewer S ht (by omega) hc hP, bd2_some, show (100 : Int64) = lN 100 from rfl, X12_power S 100 (by omega), bd2_some, X12_power S P (by omega), bd2_some, nI_l (by omega), nI_l (by omega), lN_sub b5, lN_mul, lN_mul, lN_mul, lN_mul, nI_1, ih (i + 1) g (by omega) (by omega), show (10 : Int32) = nI 10 from rfl, pk_mul, nI_add, fromN]
    unfold fairC
    by_cases h1 : smN (bwN 100 f t) i * 100 ≤ a * 100 ^ t
    · rw [if_neg (fun q => (lg_gtN b1 b2).mp q h1), decide_eq_true h1]
      by_cases h2 : (P ^ t - smN (bwN P c t) i) * 100 ≤ b * P ^ t
      · rw [if_neg (fun q => (lg_gtN b3 b4).mp q h2), decide_eq_true h2, if_pos (show (true && true) = true from rfl)]
      · rw [if_pos ((lg_gtN b3 b4).mpr h2), decide_eq_false h2, if_neg (show ¬ (true && false) = true by decide)]
    · rw [if_pos ((lg_gtN b1 b2).mpr h1), decide_eq_false h1, if_neg (by simp)]
theorem X12_fairT (hc : c ≤ P) (hP : P ≤ 100) (hf : f ≤ 100) (ha : a ≤ 100) (hb : b ≤ 100) (S : HSt) : ∀ (d t g : Nat), t + d = 7 → d < g → f_X12_fair_L74 (nI f) (nI a) (nI b) (nI c) (nI P) f_X12_fair_K190 g (nI t) S = some (fairO (fairC P c f a b) d t, S) := by
  intro d
  induction d with
  | zero =>
    intro t g hi hg
    obtain ⟨g, rfl⟩ : ∃ e, g = e + 1 := ⟨g - 1, by omega⟩
    rw [f_X12_fair_L74]
    unfold f_X12_fair_B74
    rw [if_pos (show (6 : Int32) < nI t from nI_lt (a := 6) (by omega) (by omega))]
    rfl
  | succ d ih =>
    intro t g hi hg
    obtain ⟨g, rfl⟩ : ∃ e, g = e + 1 := ⟨g - 1, by omega⟩
    rw [f_X12_fair_L74]
    unfold f_X12_fair_B74
    have e := X12_fairK hc hP hf ha hb (show t ≤ 6 by omega) (f_X12_fair_K184 (f_X12_fair_L74 (nI f) (nI a) (nI b) (nI c) (nI P) f_X12_fair_K190 g) (nI t)) S (t + 1) 0 FU (by omega) (by show _ < 100000; omega)
    rw [show nI 0 = (0 : Int32) from rfl] at e
    rw [if_neg (show ¬ (6 : Int32) < nI t from nI_nlt (b := t) (a := 6) (by omega) (by omega)), e, fairO]
    cases fromN (fairC P c f a b t) (t + 1) 0 with
    | some k => rfl
    | none =>
      show f_X12_fair_K184 (f_X12_fair_L74 (nI f) (nI a) (nI b) (nI c) (nI P) f_X12_fair_K190 g) (nI t) S = _
      unfold f_X12_fair_K184
      rw [nI_1, ih (t + 1) g (by omega) (by omega)]
theorem X12_fair {m : Nat} {o : MO} {c : MC} {B : HSt} (hs : sOk o.1) (hit place f a b : Int32) : f_X12_fair (hM m o c B) m hit place f a b = some (fairI o.1 hit place f a b, hM m o c B) := by
  have hp := hs.2.1
  unfold f_X12_fair fairI
  rw [hM_C, if_pos rfl, X12_isPlace hs, bd2_some, bI_if, X12_inN hit 100 (by omega) (by decide), bd2_some, bI_if, X12_inN f 101 (by omega) (by decide), bd2_some, bI_if, X12_inN a 101 (by omega) (by decide), bd2_some, bI_if, X12_inN b 101 (by omega) (by decide), bd2_some, bI_if]
  by_cases h1 : ¬ isN place (sN o.1 0) = true
  · rw [if_neg h1, if_neg h1]
  replace h1 := Decidable.not_not.mp h1
  rw [if_pos h1, if_pos h1]
  by_cases h2 : ¬ isN hit 100 = true
  · rw [if_neg h2, if_neg (fun q => h2 q.1)]
  replace h2 := Decidable.not_not.mp h2
  rw [if_pos h2]
  by_cases h3 : ¬ isN f 101 = true
  · rw [if_neg h3, if_neg (fun q => h3 q.2.1)]
  replace h3 := Decidable.not_not.mp h3
  rw [if_pos h3]
  by_cases h4 : ¬ isN a 101 = true
  · rw [if_neg h4, if_neg (fun q => h4 q.2.2.1)]
  replace h4 := Decidable.not_not.mp h4
  rw [if_pos h4]
  by_cases h5 : ¬ isN b 101 = true
  · rw [if_neg h5, if_neg (fun q => h5 q.2.2.2)]
  replace h5 := Decidable.not_not.mp h5
  have hc : isN hit 100 = true ∧ isN f 101 = true ∧ isN a 101 = true ∧ isN b 101 = true := ⟨h2, h3, h4, h5⟩
  rw [if_pos h5, if_pos hc]
  obtain ⟨place, hpl, rfl⟩ := isN_of (by omega) h1
  obtain ⟨hit, hh, rfl⟩ := isN_of (by omega) h2
  obtain ⟨f, hf, rfl⟩ := isN_of (by omega) h3
  obtain ⟨a, ha, rfl⟩ := isN_of (by omega) h4
  obtain ⟨b, hb, rfl⟩ := isN_of (by omega) h5
  rw [hM_C, if_pos rfl, X12_placesN hs (by omega) (by omega), bd2_some, mR_1, ob, mA_0, ob, hs.1 0 (by omega), nN_nI (by omega), nN_nI (by omega), nN_nI (by omega), nN_nI (by omega), nN_nI (by omega)]
  exact X12_fairT (pbN_le o.1 place hit) hp.2 (by omega) (by omega) (by omega) _ 6 1 FU (by omega) (by show 6 < 100000; omega)
theorem X11_fairK {n : Nat} {ρ : Nat → Nat} {k : KK} {B : HSt} (hc : c ≤ P) (hP : P ≤ 100) (hf : f ≤ 100) (ha : a ≤ 100) (hb : b ≤ 100) (ht : t ≤ 6) (hO : OW (kOd k) (bwN P c t) t (P ^ t)) (hF : OW (kFe k) (bwN 100 f t) t (100 ^ t)) (K : HSt → Option (Int32 × HSt)) : ∀ (d i g : Nat), i + d = t + 1 → d < g → f_X11_fair_L104 n (nI a) (nI b) (nI t) K g (nI i) (hK n ρ k B) = match fromN (fairC P c f a b t) d i with | some j => some (nI (10 * t + j), hK n ρ k B) | none => K (hK n ρ k B) := by
  have gcf : gC (hK n ρ k B) (n + 8) = some 4 := by
    have e := hO_C (n + 8) (kFe k) (hK n ρ k B)
    rw [← hK_fe0 n ρ k B] at e
    exact e
  have glf : gL (hK n ρ k B) (n + 8) 4 2 = some (kFe k).2.2 := by
    have e := OL_2 (n + 8) (kFe k) (hK n ρ k B)
    rw [← hK_fe0 n ρ k B] at e
    exact e
  have ffe : ∀ i, i < 2 ^ 20 → f_X4_fewer (hK n ρ k B) (n + 8) (nI i) = some (lN (smN (bwN 100 f t) i), hK n ρ k B) := fun i hi => by
    have e := X4_fewer (q := n + 8) (B := hK n ρ k B) hF (by omega) hi
    rw [← hK_fe0 n ρ k B] at e
    exact e
  intro d
  induction d with
  | zero =>
    intro i g hi hg
    obtain ⟨g, rfl⟩ : ∃ e, g = e + 1 := ⟨g - 1, by omega⟩
    rw [f_X11_fair_L104]
    unfold f_X11_fair_B104
    rw [if_pos (nI_lt (by omega) (by omega))]
    rfl
  | succ d ih =>
    intro i g hi hg
    obtain ⟨g, rfl⟩ : ∃ e, g = e + 1 := ⟨g - 1, by omega⟩
    obtain ⟨b1, b2, b3, b4, b5⟩ := fair_b hc hP hf ha hb ht (k := i) (by omega)
    have J : ∀ y : Int32, f_X11_fair_J144 n (nI b) (f_X11_fair_L104 n (nI a) (nI b) (nI t) K g) (nI t) (nI i) y (hK n ρ k B) = if 0 < lg_cmp (lN ((P ^ t - smN (bwN P c t) i) * 100)) (lN (b * P ^ t)) then f_X11_fair_J179 (f_X11_fair_L104 n (nI a) (nI b) (nI t) K g) (nI t) (nI i) y 0 (hK n ρ k B) else f_X11_fair_J179 (f_X11_fair_L104 n (nI a) (nI b) (nI t) K g) (nI t) (nI i) y 1 (hK n ρ k B) := fun y => by
      unfold f_X11_fair_J144
      rw [KR_8, ob, gC_od, if_pos rfl, K_orMore hO (by omega) (by omega) b5, bd2_some, KR_8, ob, gL_od, ob, hO.2.2.1, nI_l (by omega), show (100 : Int64) = lN 100 from rfl, lN_mul, lN_mul]
    rw [f_X11_fair_L104]
    unfold f_X11_fair_B104
    rw [if_neg (nI_nlt (by omega) (by omega)), KR_9, ob, gcf, if_pos rfl, ffe i (by omega), bd2_some, KR_9, ob, glf, ob, hF.2.2.1, nI_l (by omega), show (100 : Int64) = lN 100 from rfl, lN_mul, lN_mul, J, J]
    unfold f_X11_fair_J179
    rw [nI_1, ih (i + 1) g (by omega) (by omega), show (10 : Int32) = nI 10 from rfl, pk_mul, nI_add, fromN]
    unfold fairC
    by_cases h1 : smN (bwN 100 f t) i * 100 ≤ a * 100 ^ t
    · rw [if_neg (fun q => (lg_gtN b1 b2).mp q h1), decide_eq_true h1]
      by_cases h2 : (P ^ t - smN (bwN P c t) i) * 100 ≤ b * P ^ t
      · rw [if_neg (fun q => (lg_gtN b3 b4).mp q h2), decide_eq_true h2, if_neg (by decide), if_neg (by decide), if_pos (by rfl)]
      · rw [if_pos ((lg_gtN b3 b4).mpr h2), decide_eq_false h2, if_neg (by decide), if_pos rfl, if_neg (by decide)]
    · rw [if_pos ((lg_gtN b1 b2).mpr h1), decide_eq_false h1, if_pos rfl, if_pos rfl, ite_self, if_neg (by simp)]
theorem X11_fair {n : Nat} {ρ : Nat → Nat} {s : Nat → Int32} {k : KK} {B : HSt} (hs : sOk s) (hk : KR n s k B) (hit place f a b : Int32) : ∃ x y, f_X11_fair (hK n ρ k B) n hit place f a b = some (fairI s hit place f a b, hK n ρ (kuFe (kuOd k x) y) B) := by
  have hp := hs.2.1
  have e0 : k.1 0 = nI (sN s 0) := hk.1.trans (hs.1 0 (by omega))
  unfold f_X11_fair fairI
  rw [hK_C, if_pos rfl, X11_isPlace hs hk, bd2_some, bI_if]
  by_cases h1 : ¬ isN place (sN s 0) = true
  · exact ⟨kOd k, kFe k, by rw [if_neg h1, if_neg h1]⟩
  replace h1 := Decidable.not_not.mp h1
  rw [if_pos h1, if_pos h1]
  by_cases h2 : ¬ isN hit 100 = true
  · refine ⟨kOd k, kFe k, ?_⟩
    have hc : ¬ (isN hit 100 = true ∧ isN f 101 = true ∧ isN a 101 = true ∧ isN b 101 = true) := fun q => h2 q.1
    rw [if_neg hc]
    rcases isN_false (by omega) h2 with h0 | ⟨h0, h5⟩
    · rw [if_pos h0]
    · rw [if_neg h0, if_pos (show (100 : Int32) ≤ hit from h5)]
  replace h2 := Decidable.not_not.mp h2
  obtain ⟨hit, hh, rfl⟩ := isN_of (by omega) h2
  rw [if_neg (nI_pos (by omega)), if_neg (show ¬ (100 : Int32) ≤ nI hit from nI_ge (b := 100) hh (by omega)), X11_isPercent, bd2_some, bI_if]
  by_cases h3 : ¬ isN f 101 = true
  · exact ⟨kOd k, kFe k, by rw [if_neg h3, if_neg (fun q => h3 q.2.1)]⟩
  replace h3 := Decidable.not_not.mp h3
  rw [if_pos h3, X11_isPercent, bd2_some, bI_if]
  by_cases h4 : ¬ isN a 101 = true
  · exact ⟨kOd k, kFe k, by rw [if_neg h4, if_neg (fun q => h4 q.2.2.1)]⟩
  replace h4 := Decidable.not_not.mp h4
  rw [if_pos h4, X11_isPercent, bd2_some, bI_if]
  by_cases h5 : ¬ isN b 101 = true
  · exact ⟨kOd k, kFe k, by rw [if_neg h5, if_neg (fun q => h5 q.2.2.2)]⟩
  replace h5 := Decidable.not_not.mp h5
  have hcc : isN (nI hit) 100 = true ∧ isN f 101 = true ∧ isN a 101 = true ∧ isN b 101 = true := ⟨h2, h3, h4, h5⟩
  rw [if_pos h5, if_pos hcc]
  obtain ⟨place, hpl, rfl⟩ := isN_of (by omega) h1
  obtain ⟨f, hf, rfl⟩ := isN_of (by omega) h3
  obtain ⟨a, ha, rfl⟩ := isN_of (by omega) h4
  obtain ⟨b, hb, rfl⟩ := isN_of (by omega) h5
  rw [nN_nI (by omega), nN_nI (by omega), nN_nI (by omega), nN_nI (by omega), nN_nI (by omega)]
  have hpb := pbN_le s place hit
  generalize hc : pbN s place hit = c at *
  have gcf : ∀ k : KK, gC (hK n ρ k B) (n + 8) = some 4 := fun k => by
    have e := hO_C (n + 8) (kFe k) (hK n ρ k B)
    rw [← hK_fe0 n ρ k B] at e
    exact e
  have L : ∀ (d t g : Nat) (x y : XO), t + 1 + d = 7 → d < g → OW x (bwN (sN s 0) c t) t (sN s 0 ^ t) → OW y (bwN 100 f t) t (100 ^ t) → ∃ x' y', f_X11_fair_L63 n (nI hit) (nI place) (nI f) (nI a) (nI b) f_X11_fair_K212 g (nI (t + 1)) (hK n ρ (kuFe (kuOd k x) y) B) = some (fairO (fairC (sN s 0) c f a b) d (t + 1), hK n ρ (kuFe (kuOd k x') y') B) := by
    intro d
    induction d with
    | zero =>
      intro t g x y hi hg hx hy
      obtain ⟨g, rfl⟩ : ∃ e, g = e + 1 := ⟨g - 1, by omega⟩
      refine ⟨x, y, ?_⟩
      rw [f_X11_fair_L63]
      unfold f_X11_fair_B63
      rw [if_pos (show (6 : Int32) < nI (t + 1) from nI_lt (a := 6) (by omega) (by omega))]
      rfl
    | succ d ih =>
      intro t g x y hi hg hx hy
      obtain ⟨g, rfl⟩ : ∃ e, g = e + 1 := ⟨g - 1, by omega⟩
      obtain ⟨y2, r1, r2⟩ := X4_add (q := n + 8) (B := hK n ρ (kuFe (kuOd k x) y) B) hy (by omega) (show f ≤ 100 by omega)
      rw [hK_fe, hK_fe] at r1
      have r1 : f_X4_add (hK n ρ (kuFe (kuOd k x) y) B) (n + 8) (lN f) (lN 100) = some (hK n ρ (kuFe (kuOd k x) y2) B) := r1
      obtain ⟨x2, q1, q2⟩ := X4_add (q := n + 6) (B := hK n ρ (kuFe (kuOd k x) y2) B) hx (by omega) hpb
      rw [hK_od, hK_od] at q1
      have q1 : f_X4_add (hK n ρ (kuFe (kuOd k x) y2) B) (n + 6) (lN c) (lN (sN s 0)) = some (hK n ρ (kuFe (kuOd k x2) y2) B) := q1
      have hk2 : KR n s (kuFe (kuOd k x) y2) B := hk
      have q3 : OW x2 (bwN (sN s 0) c (t + 1)) (t + 1) (sN s 0 ^ (t + 1)) := OWc q2 (fun i => rfl) rfl (Nat.pow_succ _ _).symm
      have r3 : OW y2 (bwN 100 f (t + 1)) (t + 1) (100 ^ (t + 1)) := OWc r2 (fun i => rfl) rfl (Nat.pow_succ _ _).symm
      have e := X11_fairK (ρ := ρ) (n := n) (B := B) (k := kuFe (kuOd k x2) y2) hpb hp.2 (show f ≤ 100 by omega) (show a ≤ 100 by omega) (show b ≤ 100 by omega) (show t + 1 ≤ 6 by omega) q3 r3 (f_X11_fair_K206 (f_X11_fair_L63 n (nI hit) (nI place) (nI f) (nI a) (nI b) f_X11_fair_K212 g) (nI (t + 1))) (t + 1 + 1) 0 FU (by omega) (by show _ < 100000; omega)
      rw [show nI 0 = (0 : Int32) from rfl] at e
      have head : f_X11_fair_L63 n (nI hit) (nI place) (nI f) (nI a) (nI b) f_X11_fair_K212 (g + 1) (nI (t + 1)) (hK n ρ (kuFe (kuOd k x) y) B) = f_X11_fair_L104 n (nI a) (nI b) (nI (t + 1)) (f_X11_fair_K206 (f_X11_fair_L63 n (nI hit) (nI place) (nI f) (nI a) (nI b) f_X11_fair_K212 g) (nI (t + 1))) FU 0 (hK n ρ (kuFe (kuOd k x2) y2) B) := by
        rw [f_X11_fair_L63]
        unfold f_X11_fair_B63
        rw [if_neg (show ¬ (6 : Int32) < nI (t + 1) from nI_nlt (b := t + 1) (a := 6) (by omega) (by omega)), KR_9, ob, gcf, if_pos rfl, nI_l (by omega), show (100 : Int64) = lN 100 from rfl, r1, ob, KR_8, ob, hK_C, if_pos rfl, X11_placesWithin hs hk2 hpl (by omega), bd2_some, KI_0, ob, show (kuFe (kuOd k x) y2).1 0 = nI (sN s 0) from e0, gC_od, if_pos rfl, hc, nI_l (by omega), nI_l (by omega), q1, ob]
      cases hfr : fromN (fairC (sN s 0) c f a b (t + 1)) (t + 1 + 1) 0 with
      | some j =>
        refine ⟨x2, y2, ?_⟩
        rw [head, e, fairO, hfr]
      | none =>
        obtain ⟨x3, y3, z⟩ := ih (t + 1) g x2 y2 (by omega) (by omega) q3 r3
        refine ⟨x3, y3, ?_⟩
        rw [head, e, fairO, hfr]
        show f_X11_fair_K206 (f_X11_fair_L63 n (nI hit) (nI place) (nI f) (nI a) (nI b) f_X11_fair_K212 g) (nI (t + 1)) (hK n ρ (kuFe (kuOd k x2) y2) B) = _
        unfold f_X11_fair_K206
        rw [nI_1]
        exact z
  obtain ⟨y0, s1, s2⟩ := X4_start (q := n + 8) (B := hK n ρ k B) (kFe k)
  rw [hK_fe, hK_fe] at s1
  have s1 : f_X4_start (hK n ρ k B) (n + 8) = some (hK n ρ (kuFe k y0) B) := s1
  obtain ⟨x0, t1, t2⟩ := X4_start (q := n + 6) (B := hK n ρ (kuFe k y0) B) (kOd k)
  rw [hK_od, hK_od] at t1
  have t1 : f_X4_start (hK n ρ (kuFe k y0) B) (n + 6) = some (hK n ρ (kuFe (kuOd k x0) y0) B) := t1
  obtain ⟨x', y', w⟩ := L 6 0 FU x0 y0 (by omega) (by show 6 < 100000; omega) (OWc t2 (fun i => rfl) rfl rfl) (OWc s2 (fun i => rfl) rfl rfl)
  refine ⟨x', y', ?_⟩
  rw [KR_9, ob, gcf, if_pos rfl, s1, ob, KR_8, ob, gC_od, if_pos rfl, t1, ob]
  exact w
end FAIR
