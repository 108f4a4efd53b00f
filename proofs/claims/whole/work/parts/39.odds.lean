/-! ODDS: in how many of all ways; as numbers without bound -/
def pbN (s : Nat → Int32) (said hit : Nat) : Nat := smN (fun p => if dist p said ≤ hit then 1 else 0) (sN s 0)
/-- one more try: c of P places are a hit -/
def addW (P c : Nat) (w : Nat → Nat) (k : Nat) : Nat := w k * (P - c) + if k = 0 then 0 else w (k - 1) * c
def wyN (s : Nat → Int32) (set : Int32) (hit : Nat) : Nat → Nat → Nat
  | 0, k => if k = 0 then 1 else 0
  | t + 1, k => if bt set t = true then addW (sN s 0) (pbN s (tSaid s t) hit) (wyN s set hit t) k else wyN s set hit t k
def alN (s : Nat → Int32) (set : Int32) : Nat → Nat
  | 0 => 1
  | t + 1 => if bt set t = true then alN s set t * sN s 0 else alN s set t
def cnN (set : Int32) (t : Nat) : Nat := smN (fun k => if bt set k then 1 else 0) t
def orN (w : Nat → Nat) (k : Nat) : Nat := smN (fun i => w (k + i)) (11 - k)
theorem pbN_le (s : Nat → Int32) (said hit : Nat) : pbN s said hit ≤ sN s 0 := by
  have := smN_le (f := fun p => if dist p said ≤ hit then 1 else 0) (k := 1) (n := sN s 0) (fun i _ => by show (if _ then 1 else 0) ≤ 1; split <;> omega)
  unfold pbN
  omega
theorem smN_add (f g : Nat → Nat) : ∀ n, smN (fun k => f k + g k) n = smN f n + smN g n := by
  intro n
  induction n with
  | zero => rfl
  | succ n ih => simp only [smN, ih]; omega
theorem smN_mul (f : Nat → Nat) (c : Nat) : ∀ n, smN (fun k => f k * c) n = smN f n * c := by
  intro n
  induction n with
  | zero => simp [smN]
  | succ n ih => simp only [smN, ih, Nat.add_mul]
theorem smN_shift (f : Nat → Nat) : ∀ n, smN (fun k => if k = 0 then 0 else f (k - 1)) (n + 1) = smN f n := by
  intro n
  induction n with
  | zero => rfl
  | succ n ih =>
    show smN (fun k => if k = 0 then 0 else f (k - 1)) (n + 1) + (if n + 1 = 0 then 0 else f (n + 1 - 1)) = _
    rw [ih, if_neg (by omega)]
    rfl
theorem smN_split (f : Nat → Nat) (k : Nat) : ∀ d, smN f (k + d) = smN f k + smN (fun i => f (k + i)) d := by
  intro d
  induction d with
  | zero => rfl
  | succ d ih =>
    show smN f (k + d) + f (k + d) = _
    rw [ih]
    simp only [smN]
    omega
theorem cnN_succ (set : Int32) (t : Nat) : cnN set (t + 1) = cnN set t + if bt set t = true then 1 else 0 := rfl
/-- all ways together -/
theorem wy_sum (s : Nat → Int32) (set : Int32) (hit : Nat) : ∀ t K, cnN set t ≤ K → smN (wyN s set hit t) (K + 1) = alN s set t := by
  intro t
  induction t with
  | zero =>
    intro K _
    induction K with
    | zero => rfl
    | succ K ih =>
      show smN _ (K + 1) + (if K + 1 = 0 then 1 else 0) = 1
      rw [ih (Nat.zero_le _), if_neg (by omega)]
      rfl
  | succ t ih =>
    intro K hK
    rw [cnN_succ] at hK
    by_cases hb : bt set t = true
    · rw [if_pos hb] at hK
      obtain ⟨K, rfl⟩ : ∃ j, K = j + 1 := ⟨K - 1, by omega⟩
      have hc := pbN_le s (tSaid s t) hit
      have e1 : smN (wyN s set hit (t + 1)) (K + 1 + 1) = smN (fun k => wyN s set hit t k * (sN s 0 - pbN s (tSaid s t) hit) + (if k = 0 then 0 else wyN s set hit t (k - 1)) * pbN s (tSaid s t) hit) (K + 1 + 1) := smN_cong (fun i _ => by
        simp only [wyN, hb, if_true, addW]
        by_cases h : i = 0 <;> simp [h])
      rw [e1, smN_add, smN_mul, smN_mul, smN_shift, ih (K + 1) (by omega), ih K (by omega)]
      simp only [alN, hb, if_true]
      rw [← Nat.mul_add]
      congr 1
      omega
    · rw [if_neg hb] at hK
      have e1 : smN (wyN s set hit (t + 1)) (K + 1) = smN (wyN s set hit t) (K + 1) := smN_cong (fun i _ => by simp [wyN, hb])
      rw [e1, ih K (by omega)]
      simp [alN, hb]
theorem al_pow (s : Nat → Int32) (set : Int32) : ∀ t, alN s set t = sN s 0 ^ cnN set t := by
  intro t
  induction t with
  | zero => rfl
  | succ t ih =>
    rw [cnN_succ]
    by_cases hb : bt set t = true
    · simp [alN, hb, ih, Nat.pow_succ]
    · simp [alN, hb, ih]
theorem al_lt {s : Nat → Int32} (hs : sOk s) {set : Int32} {t : Nat} (h : cnN set t ≤ 9) : 0 < alN s set t ∧ alN s set t < 2 ^ 62 := by
  rw [al_pow]
  have h1 := hs.2.1
  refine ⟨Nat.pow_pos (by omega), ?_⟩
  have h2 : sN s 0 ^ cnN set t ≤ 100 ^ cnN set t := Nat.pow_le_pow_left h1.2 _
  have h3 : 100 ^ cnN set t ≤ 100 ^ 9 := Nat.pow_le_pow_right (by omega) h
  have h4 : (100 : Nat) ^ 9 < 2 ^ 62 := by decide
  omega
theorem or_fewer (s : Nat → Int32) (set : Int32) (hit t : Nat) (h : cnN set t ≤ 10) {k : Nat} (hk : k ≤ 11) : smN (wyN s set hit t) k + orN (wyN s set hit t) k = alN s set t := by
  have := smN_split (wyN s set hit t) k (11 - k)
  rw [show k + (11 - k) = 10 + 1 by omega, wy_sum s set hit t 10 h] at this
  exact this.symm
section ODDS
variable {m : Nat} {o : MO} {c : MC} {B : HSt}
theorem X12_placesN (hs : sOk o.1) {said hit : Nat} (h1 : said < 2 ^ 20) (h2 : hit < 2 ^ 20) : f_X12_placesBy (hM m o c B) m (nI said) (nI hit) = some (nI (pbN o.1 said hit), hM m o c B) := X12_placesBy hs h1 h2
theorem cW_W (c : MC) (f : Nat → Int64) : (cW c f).2.2.2.2.2 = f := rfl
theorem cW_A (c : MC) (f : Nat → Int64) : (cW c f).2.1 = c.2.1 := rfl
theorem cA_W (c : MC) (x : Int64) : (cA c x).2.2.2.2.2 = c.2.2.2.2.2 := rfl
theorem cA_A (c : MC) (x : Int64) : (cA c x).2.1 = x := rfl
theorem m1_neg : (0 : Int32) + -1 < 0 := by decide
theorem X12_counts_in (hs : sOk o.1) {C : Nat} (hC : C ≤ sN o.1 0) (K : HSt → Option HSt) (w : Nat → Nat) : ∀ (k f : Nat) (c : MC), k ≤ 10 → k + 1 < f → (∀ j, j ≤ k → c.2.2.2.2.2 j = lN (w j)) → (∀ j, k < j → j ≤ 10 → c.2.2.2.2.2 j = lN (addW (sN o.1 0) C w j)) →
    ∃ W', (∀ j, j ≤ 10 → W' j = lN (addW (sN o.1 0) C w j)) ∧ f_X12_counts_L75 m (nI C) K f (nI k) (hM m o c B) = K (hM m o (cW c W') B) := by
  have e0 := hs.1 0 (by omega)
  have hp := hs.2.1
  intro k
  induction k with
  | zero =>
    intro f c hk hf h1 h2
    obtain ⟨f, rfl⟩ : ∃ g, f = g + 1 := ⟨f - 1, by omega⟩
    obtain ⟨f, rfl⟩ : ∃ g, f = g + 1 := ⟨f - 1, by omega⟩
    refine ⟨vp_updL c.2.2.2.2.2 0 (lN (addW (sN o.1 0) C w 0)), fun j hj => ?_, ?_⟩
    · by_cases h : j = 0
      · subst h; rw [pk_uLs]
      · rw [pk_uLn h, h2 j (by omega) hj]
    · rw [f_X12_counts_L75]
      unfold f_X12_counts_B75
      rw [if_neg (nI_pos (by omega)), mR_13, ob, ob, mA_w m o c B (i := nI 0) (k := 0) rfl (by omega), ob, mR_1, ob, mA_0, ob, if_pos (show nI 0 ≤ 0 by decide), mS_w m o c B (i := nI 0) (k := 0) rfl (by omega), ob, h1 0 (Nat.le_refl _), e0, nI_subN hC, nI_l (by omega), lN_mul, show lN (w 0 * (sN o.1 0 - C)) + 0 = lN (addW (sN o.1 0) C w 0) from lN_add _ 0, f_X12_counts_L75]
      unfold f_X12_counts_B75
      rw [if_pos (show nI 0 + -1 < 0 from m1_neg)]
  | succ k ih =>
    intro f c hk hf h1 h2
    obtain ⟨f, rfl⟩ : ∃ g, f = g + 1 := ⟨f - 1, by omega⟩
    obtain ⟨W', k1, k2⟩ := ih f (cW c (vp_updL c.2.2.2.2.2 (k + 1) (lN (addW (sN o.1 0) C w (k + 1))))) (by omega) (by omega)
      (fun j hj => by rw [cW_W, pk_uLn (by omega)]; exact h1 j (by omega))
      (fun j hj hj2 => by
        rw [cW_W]
        by_cases h : j = k + 1
        · subst h; rw [pk_uLs]
        · rw [pk_uLn h]; exact h2 j (by omega) hj2)
    refine ⟨W', k1, ?_⟩
    rw [f_X12_counts_L75]
    unfold f_X12_counts_B75
    rw [if_neg (nI_pos (by omega)), mR_13, ob, ob, mA_w m o c B (i := nI (k + 1)) (k := k + 1) rfl (by omega), ob, mR_1, ob, mA_0, ob, if_neg (show ¬ nI (k + 1) ≤ 0 from nI_nle (by omega) (by omega)), ob, nI_pred, mA_w m o c B (i := nI k) (k := k) rfl (by omega), ob, h1 (k + 1) (Nat.le_refl _), h1 k (by omega), e0, nI_subN hC, nI_l (by omega), nI_l (by omega), lN_mul, lN_mul, lN_add, mS_w m o c B (i := nI (k + 1)) (k := k + 1) rfl (by omega), ob, pk_m1]
    have ea : w (k + 1) * (sN o.1 0 - C) + w k * C = addW (sN o.1 0) C w (k + 1) := by
      unfold addW
      rw [if_neg (by omega)]
      rfl
    rw [ea, k2]
    rfl
theorem X12_counts (hs : sOk o.1) (set : Int32) {hit : Nat} (hh : hit < 2 ^ 20) : ∃ c', f_X12_counts (hM m o c B) m set (nI hit) = some (hM m o c' B) ∧ (∀ k, k ≤ 10 → c'.2.2.2.2.2 k = lN (wyN o.1 set hit (sN o.1 1) k)) ∧ c'.2.1 = lN (alN o.1 set (sN o.1 1)) := by
  have e0 := hs.1 0 (by omega)
  have e1 := hs.1 1 (by omega)
  have hp := hs.2.1
  have hn := hs.2.2.1
  unfold f_X12_counts
  have L : ∀ (d i f : Nat) (c : MC), i + d = 11 → d < f → (∀ k, k < i → c.2.2.2.2.2 k = 0) → ∃ c', (∀ k, k ≤ 10 → c'.2.2.2.2.2 k = 0) ∧ f_X12_counts_L2 m (f_X12_counts_K21 m set (nI hit)) f (nI i) (hM m o c B) = f_X12_counts_K21 m set (nI hit) (hM m o c' B) := by
    intro d
    induction d with
    | zero =>
      intro i f c hi hf h
      obtain ⟨f, rfl⟩ : ∃ g, f = g + 1 := ⟨f - 1, by omega⟩
      refine ⟨c, fun k hk => h k (by omega), ?_⟩
      rw [f_X12_counts_L2]
      unfold f_X12_counts_B2
      rw [if_pos (show (11 : Int32) ≤ nI i from (nI_leI (a := 11) (b := i) (by omega) (by omega)).mpr (by omega))]
    | succ d ih =>
      intro i f c hi hf h
      obtain ⟨f, rfl⟩ : ∃ g, f = g + 1 := ⟨f - 1, by omega⟩
      obtain ⟨c', k1, k2⟩ := ih (i + 1) f (cW c (vp_updL c.2.2.2.2.2 i 0)) (by omega) (by omega) (fun k hk => by
        rw [cW_W]
        by_cases hki : k = i
        · subst hki; rw [pk_uLs]
        · rw [pk_uLn hki]; exact h k (by omega))
      refine ⟨c', k1, ?_⟩
      rw [f_X12_counts_L2]
      unfold f_X12_counts_B2
      rw [if_neg (show ¬ (11 : Int32) ≤ nI i from fun q => by have := (nI_leI (a := 11) (b := i) (by omega) (by omega)).mp q; omega), mR_13, ob, mS_w m o c B (i := nI i) (k := i) rfl (by omega), ob, nI_1, k2]
  obtain ⟨c1, z1, z2⟩ := L 11 0 FU c (by omega) (by show 11 < 100000; omega) (fun k hk => absurd hk (by omega))
  rw [show (0 : Int32) = nI 0 from rfl, z2]
  unfold f_X12_counts_K21
  rw [mR_13, ob, mS_w m o c1 B (i := 0) (k := 0) rfl (by omega), ob, mP_14, ob]
  have M : ∀ (d i f : Nat) (c : MC), i + d = sN o.1 1 → d < f → (∀ k, k ≤ 10 → c.2.2.2.2.2 k = lN (wyN o.1 set hit i k)) → c.2.1 = lN (alN o.1 set i) → ∃ c', f_X12_counts_L35 m set (nI hit) f_X12_counts_K156 f (nI i) (hM m o c B) = some (hM m o c' B) ∧ (∀ k, k ≤ 10 → c'.2.2.2.2.2 k = lN (wyN o.1 set hit (sN o.1 1) k)) ∧ c'.2.1 = lN (alN o.1 set (sN o.1 1)) := by
    intro d
    induction d with
    | zero =>
      intro i f c hi hf h1 h2
      obtain ⟨f, rfl⟩ : ∃ g, f = g + 1 := ⟨f - 1, by omega⟩
      have : i = sN o.1 1 := by omega
      subst this
      refine ⟨c, ?_, h1, h2⟩
      rw [f_X12_counts_L35]
      unfold f_X12_counts_B35
      rw [mR_1, ob, mA_1, ob, e1, if_pos (nI_le (Nat.le_refl _) (by omega))]
      rfl
    | succ d ih =>
      intro i f c hi hf h1 h2
      obtain ⟨f, rfl⟩ : ∃ g, f = g + 1 := ⟨f - 1, by omega⟩
      rw [f_X12_counts_L35]
      unfold f_X12_counts_B35
      rw [mR_1, ob, mA_1, ob, e1, if_neg (nI_ge (by omega) (by omega))]
      by_cases hb : bt set i = true
      · obtain ⟨-, -, -, -, es, -, -, -, -, -, ht, -⟩ := hs.2.2.2.2.2.2 i (by omega)
        rw [if_pos ((b_ask1 set (by omega)).mpr hb), ob, mA_s m o c B (i := 250 + nI i) (k := 250 + i) (nI_add 250 i) (by omega), es, ob, hM_C, if_pos rfl, X12_placesN hs (by omega) hh, bd2_some]
        obtain ⟨W', k1, k2⟩ := X12_counts_in (m := m) (B := B) hs (pbN_le o.1 (tSaid o.1 i) hit) (f_X12_counts_K134 m (f_X12_counts_L35 m set (nI hit) f_X12_counts_K156 f) (nI i)) (wyN o.1 set hit i) 10 FU c (by omega) (by show 11 < 100000; omega) (fun j hj => h1 j hj) (fun j hj hj2 => absurd hj (by omega))
        rw [show (10 : Int32) = nI 10 from rfl, k2]
        unfold f_X12_counts_K134
        rw [mL_14, ob, mR_1, ob, mA_0, ob, e0, cW_A, h2, nI_l (by omega), lN_mul, mP_14, ob, nI_1]
        refine ih (i + 1) f _ (by omega) (by omega) (fun k hk => ?_) ?_
        · rw [cA_W, cW_W, k1 k hk]
          simp [wyN, hb]
        · rw [cA_A]
          simp [alN, hb]
      · rw [if_neg (fun q => hb ((b_ask1 set (by omega)).mp q)), nI_1]
        refine ih (i + 1) f c (by omega) (by omega) (fun k hk => ?_) ?_
        · rw [h1 k hk]
          simp [wyN, hb]
        · rw [h2]
          simp [alN, hb]
  refine M (sN o.1 1) 0 FU _ (by omega) (by show sN o.1 1 < 100000; omega) (fun k hk => ?_) ?_
  · rw [cA_W, cW_W]
    by_cases h : k = 0
    · subst h; rw [pk_uLs]; rfl
    · rw [pk_uLn h, z1 k hk]
      simp [wyN, h]
      rfl
  · rw [cA_A]; rfl
theorem X12_orMore {w : Nat → Nat} (hw : ∀ k, k ≤ 10 → c.2.2.2.2.2 k = lN (w k)) {k : Nat} (hk : k ≤ 11) : f_X12_orMore (hM m o c B) m (nI k) = some (lN (orN w k), hM m o c B) := by
  unfold f_X12_orMore
  have L : ∀ (d i f : Nat), k + i + d = 11 → d < f → f_X12_orMore_L5 m f_X12_orMore_K28 f (lN (smN (fun j => w (k + j)) i)) (nI (k + i)) (hM m o c B) = some (lN (orN w k), hM m o c B) := by
    intro d
    induction d with
    | zero =>
      intro i f hi hf
      obtain ⟨f, rfl⟩ : ∃ g, f = g + 1 := ⟨f - 1, by omega⟩
      rw [f_X12_orMore_L5]
      unfold f_X12_orMore_B5
      rw [if_pos (show (11 : Int32) ≤ nI (k + i) from (nI_leI (a := 11) (b := k + i) (by omega) (by omega)).mpr (by omega))]
      unfold f_X12_orMore_K28 orN
      rw [show i = 11 - k by omega]
    | succ d ih =>
      intro i f hi hf
      obtain ⟨f, rfl⟩ : ∃ g, f = g + 1 := ⟨f - 1, by omega⟩
      rw [f_X12_orMore_L5]
      unfold f_X12_orMore_B5
      rw [if_neg (show ¬ (11 : Int32) ≤ nI (k + i) from fun q => by have := (nI_leI (a := 11) (b := k + i) (by omega) (by omega)).mp q; omega), mR_13, ob, mA_w m o c B (i := nI (k + i)) (k := k + i) rfl (by omega), ob, hw (k + i) (by omega), lN_add, nI_1]
      exact ih (i + 1) f (by omega) (by omega)
  exact L (11 - k) 0 FU (by omega) (by show 11 - k < 100000; omega)
end ODDS
