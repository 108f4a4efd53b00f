/-! ODDS: chance, odds, best -/
/-- a fraction's part in lowest terms -/
def frL (u w : Nat) (part : Int32) : Int64 := lN ((if part = 0 then u else w) / Nat.gcd u w)
def NOl : Int64 := -9223372036854775808
theorem bt_nI (j : Nat) {i : Nat} (hi : i < 32) : bt (nI j) i = j.testBit i := by
  unfold bt
  show (BitVec.ofNat 32 j).getLsbD i = _
  rw [BitVec.getLsbD_ofNat]
  simp [hi]
theorem isN_bt {x : Int32} {n : Nat} (hn : n ≤ 30) (h : isN x (2 ^ n) = true) {i : Nat} (h1 : n ≤ i) (h2 : i < 32) : bt x i = false := by
  have hp : 2 ^ n ≤ 2 ^ 30 := Nat.pow_le_pow_right (by omega) hn
  obtain ⟨j, hj, rfl⟩ := isN_of (by omega) h
  rw [bt_nI j h2]
  exact Nat.testBit_lt_two_pow (Nat.lt_of_lt_of_le hj (Nat.pow_le_pow_right (by omega) h1))
theorem in_isN2 (x : Int32) {n : Nat} (hn : n < 2 ^ 31) : (if (0 : Int32) ≤ x ∧ x ≤ nI n - 1 then (1 : Int32) else 0) = bI (isN x n) := by
  have e : (x ≤ nI n - 1) ↔ x < nI n := by
    have h1 : (nI n).toInt = n := nI_toInt (by omega)
    have h2 : (nI n - 1).toInt = (n : Int) - 1 := by
      rw [Int32.toInt_sub, h1]
      show ((n : Int) - 1).bmod (2 ^ 32) = _
      rw [Int.bmod_eq_of_le] <;> omega
    rw [Int32.le_iff_toInt_le, Int32.lt_iff_toInt_lt, h1, h2]
    omega
  unfold isN bI
  by_cases h : (0 : Int32) ≤ x ∧ x < nI n
  · rw [if_pos ⟨h.1, e.mpr h.2⟩, decide_eq_true h, if_pos rfl]
  · rw [if_neg (fun q => h ⟨q.1, e.mp q.2⟩), decide_eq_false h]
    rfl
theorem X12_inN {S : HSt} (v : Int32) (n : Nat) {hi : Int32} (hn : n < 2 ^ 31) (h : nI n - 1 = hi) : f_X12_in S v 0 hi = some (bI (isN v n), S) := by
  rw [X12_in, ← h, in_isN2 v hn]
theorem one_shl {n : Nat} (hn : n ≤ 30) : (1 : Int32) <<< (nI n &&& 31) = nI (2 ^ n) := by
  have h := pk_shlN (n := 1) (nI n &&& 31) n (s_l n (by omega)) (by have : 2 ^ n ≤ 2 ^ 30 := Nat.pow_le_pow_right (by omega) hn; omega)
  rw [Nat.one_mul] at h
  exact h
theorem smN_ge (f : Nat → Nat) {i : Nat} : ∀ {n : Nat}, i < n → f i ≤ smN f n := by
  intro n
  induction n with
  | zero => intro h; omega
  | succ n ih =>
    intro h
    unfold smN
    by_cases h2 : i = n
    · subst h2; omega
    · have := ih (by omega); omega
theorem cnN_mono (set : Int32) {a b : Nat} (h : a ≤ b) : cnN set a ≤ cnN set b := by
  obtain ⟨d, rfl⟩ : ∃ d, b = a + d := ⟨b - a, by omega⟩
  unfold cnN
  rw [smN_split]
  omega
theorem numS_cn (set : Int32) {n : Nat} (hn : n ≤ 30) : cnN set n ≤ numS set := cnN_mono set hn
def prN (f : Nat → Nat) : Nat → Nat
  | 0 => 1
  | n + 1 => prN f n * f n
theorem prN_cong {f g : Nat → Nat} : ∀ {n : Nat}, (∀ i, i < n → f i = g i) → prN f n = prN g n := by
  intro n
  induction n with
  | zero => intro _; rfl
  | succ n ih =>
    intro h
    unfold prN
    rw [h n (Nat.lt_succ_self n), ih (fun i hi => h i (Nat.lt_succ_of_lt hi))]
theorem prN_le {f g : Nat → Nat} : ∀ {n : Nat}, (∀ i, i < n → f i ≤ g i) → prN f n ≤ prN g n := by
  intro n
  induction n with
  | zero => intro _; exact Nat.le_refl _
  | succ n ih =>
    intro h
    exact Nat.mul_le_mul (ih (fun i hi => h i (Nat.lt_succ_of_lt hi))) (h n (Nat.lt_succ_self n))
theorem prN_one (f : Nat → Nat) (P j : Nat) : ∀ n, prN (fun m => if m = j then f m * P else f m) n = if j < n then prN f n * P else prN f n := by
  intro n
  induction n with
  | zero => rfl
  | succ n ih =>
    show prN _ n * (if n = j then f n * P else f n) = if j < n + 1 then prN f n * f n * P else prN f n * f n
    rw [ih]
    by_cases h : j < n
    · rw [if_pos h, if_neg (show ¬ n = j by omega), if_pos (show j < n + 1 by omega), Nat.mul_assoc, Nat.mul_assoc, Nat.mul_comm P]
    · rw [if_neg h]
      by_cases h2 : n = j
      · rw [if_pos h2, if_pos (show j < n + 1 by omega), Nat.mul_assoc]
      · rw [if_neg h2, if_neg (show ¬ j < n + 1 by omega)]
theorem manS_bt {s : Nat → Int32} (hs : sOk s) (set : Int32) (man : Nat) {t : Nat} (ht : t < sN s 1) : bt (manS s set man) t = (bt set t && decide (tMan s t = man)) := by
  have hn := hs.2.2.1
  unfold manS
  rw [bits_bt _ _ (by omega) t (by omega)]
  simp [ht]
theorem pr_al {s : Nat → Int32} (hs : sOk s) (set : Int32) : ∀ t, t ≤ sN s 1 → prN (fun man => alN s (manS s set man) t) 6 = alN s set t := by
  intro t
  induction t with
  | zero => intro _; rfl
  | succ t ih =>
    intro ht
    obtain ⟨-, -, -, -, -, -, hm, -⟩ := hs.2.2.2.2.2.2 t (by omega)
    by_cases hb : bt set t = true
    · have e : prN (fun man => alN s (manS s set man) (t + 1)) 6 = prN (fun man => if man = tMan s t then alN s (manS s set man) t * sN s 0 else alN s (manS s set man) t) 6 := prN_cong (fun man _ => by
        show (if bt (manS s set man) t = true then _ else _) = _
        rw [manS_bt hs set man (by omega), hb]
        by_cases h : man = tMan s t
        · simp [h]
        · simp [h, Ne.symm h])
      rw [e, prN_one, if_pos hm, ih (by omega)]
      simp [alN, hb]
    · have e : prN (fun man => alN s (manS s set man) (t + 1)) 6 = prN (fun man => alN s (manS s set man) t) 6 := prN_cong (fun man _ => by
        show (if bt (manS s set man) t = true then _ else _) = _
        rw [manS_bt hs set man (by omega)]
        simp [hb])
      rw [e, ih (by omega)]
      simp [alN, hb]
theorem cnN_man {s : Nat → Int32} (hs : sOk s) (set : Int32) (man : Nat) : cnN (manS s set man) (sN s 1) ≤ cnN set (sN s 1) := by
  have hn := hs.2.2.1
  have h : ∀ t, t ≤ sN s 1 → cnN (manS s set man) t ≤ cnN set t := by
    intro t
    induction t with
    | zero => intro _; exact Nat.le_refl _
    | succ t ih =>
      intro ht
      rw [cnN_succ, cnN_succ, manS_bt hs set man (by omega)]
      have := ih (by omega)
      cases bt set t <;> simp <;> (try split) <;> omega
  exact h _ (Nat.le_refl _)
def oddsV (s : Nat → Int32) (set : Int32) (hit k : Nat) (what part : Int32) : Int64 := frL (if what = 0 then orN (wyN s set hit (sN s 1)) k else wyN s set hit (sN s 1) k) (alN s set (sN s 1)) part
def fewN (s : Nat → Int32) (set : Int32) (hit k : Nat) : Nat := smN (wyN s set hit (sN s 1)) k
def bestV (s : Nat → Int32) (set : Int32) (hit k : Nat) (part : Int32) : Int64 := if numS set ≤ 9 then frL (alN s set (sN s 1) - prN (fun man => fewN s (manS s set man) hit k) 6) (alN s set (sN s 1)) part else NOl
def aloN (f : Nat → Bool) (g : Nat → Nat) : Nat → Option Nat
  | 0 => none
  | n + 1 => match aloN f g n with
    | none => if f n = true then some n else none
    | some b => if f n = true ∧ g b < g n then some n else some b
def aloV (s : Nat → Int32) (set : Int32) (hit k : Nat) (part : Int32) : Int64 := match aloN (fun man => decide (manS s set man ≠ 0)) (fun man => numS (manS s (hitS s set hit) man)) 6 with
  | none => NOl
  | some b => if numS (manS s set b) ≤ 9 then oddsV s (manS s set b) hit k 0 part else NOl
theorem aloN_lt (f : Nat → Bool) (g : Nat → Nat) : ∀ n b, aloN f g n = some b → b < n := by
  intro n
  induction n with
  | zero => intro b h; cases h
  | succ n ih =>
    intro b h
    unfold aloN at h
    split at h
    · split at h
      · cases h; omega
      · cases h
    · rename_i b2 h2
      have := ih b2 h2
      split at h <;> cases h <;> omega
section ODDS2
variable {m : Nat} {o : MO} {c : MC} {B : HSt}
theorem X12_areTries (hs : sOk o.1) (x : Int32) : f_X12_areTries (hM m o c B) m x = some (bI (isN x (2 ^ sN o.1 1)), hM m o c B) := by
  have hn := hs.2.2.1
  have hp : 2 ^ sN o.1 1 ≤ 2 ^ 30 := Nat.pow_le_pow_right (by omega) hn
  unfold f_X12_areTries
  rw [mR_1, ob, mA_1, ob, hs.1 1 (by omega), one_shl hn, X12_inN x (2 ^ sN o.1 1) (by omega) rfl, bd2_some, if_pos (bI_01 _)]
theorem X12_chance (hs : sOk o.1) {tx : Nat → List Cl} (hx : txOk o.1 tx) (a t part : Int32) : f_X12_chance (hM m o c B) m a t part = some (if isN a (sN o.1 2) = true ∧ isN t (sN o.1 1) = true ∧ isN part 2 = true then frL (pbN o.1 (tSaid o.1 (nN t)) (hitN o.1 (nN a))) (sN o.1 0) part else NOl, hM m o c B) := by
  have hp := hs.2.1
  have hn := hs.2.2.1
  have hn2 := hs.2.2.2.1
  unfold f_X12_chance
  rw [hM_C, if_pos rfl, X12_isPlan hs, bd2_some, bI_if]
  by_cases h1 : isN a (sN o.1 2) = true
  · rw [if_pos h1, hM_C, if_pos rfl, X12_isTry hs, bd2_some, bI_if]
    by_cases h2 : isN t (sN o.1 1) = true
    · rw [if_pos h2, X12_inN part 2 (by omega) (by decide), bd2_some, bI_if]
      by_cases h3 : isN part 2 = true
      · rw [if_pos h3, if_pos ⟨h1, h2, h3⟩]
        obtain ⟨a, ha, rfl⟩ := isN_of (by omega) h1
        obtain ⟨t, ht, rfl⟩ := isN_of (by omega) h2
        obtain ⟨-, -, -, -, es, -, -, -, -, -, hts, -⟩ := hs.2.2.2.2.2.2 t ht
        obtain ⟨-, eh, hh, -⟩ := hx.1 a ha
        rw [nN_nI (by omega), nN_nI (by omega), mR_1, ob, mA_s m o c B (i := 250 + nI t) (k := 250 + t) (nI_add 250 t) (by omega), es, ob, ob, mA_s m o c B (i := 310 + nI a) (k := 310 + a) (nI_add 310 a) (by omega), eh, ob, X12_placesN hs (by omega) (by omega), bd2_some, mR_1, ob, mA_0, ob, hs.1 0 (by omega), nI_l (by have := pbN_le o.1 (tSaid o.1 t) (hitN o.1 a); omega), nI_l (by omega), X12_lowest (by have := pbN_le o.1 (tSaid o.1 t) (hitN o.1 a); omega) (by omega) (by omega), bd2_some, hM_C, if_pos rfl]
        rfl
      · rw [if_neg h3, if_neg (fun q => h3 q.2.2)]
        rfl
    · rw [if_neg h2, if_neg (fun q => h2 q.2.1)]
      rfl
  · rw [if_neg h1, if_neg (fun q => h1 q.1)]
    rfl
theorem X12_odds (hs : sOk o.1) {tx : Nat → List Cl} (hx : txOk o.1 tx) (a set k what part : Int32) : ∃ c', f_X12_odds (hM m o c B) m a set k what part = some (if isN a (sN o.1 2) = true ∧ isN set (2 ^ sN o.1 1) = true ∧ isN k 10 = true ∧ isN what 2 = true ∧ isN part 2 = true ∧ numS set ≤ 9 then oddsV o.1 set (hitN o.1 (nN a)) (nN k) what part else NOl, hM m o c' B) := by
  have hp := hs.2.1
  have hn := hs.2.2.1
  have hn2 := hs.2.2.2.1
  unfold f_X12_odds
  rw [hM_C, if_pos rfl, X12_isPlan hs, bd2_some, bI_if]
  by_cases h1 : ¬ (isN a (sN o.1 2) = true)
  · exact ⟨c, by rw [if_neg h1, if_neg (fun q => h1 q.1)]; rfl⟩
  replace h1 := Decidable.not_not.mp h1
  rw [if_pos h1, hM_C, if_pos rfl, X12_areTries hs, bd2_some, bI_if]
  by_cases h2 : ¬ (isN set (2 ^ sN o.1 1) = true)
  · exact ⟨c, by rw [if_neg h2, if_neg (fun q => h2 q.2.1)]; rfl⟩
  replace h2 := Decidable.not_not.mp h2
  rw [if_pos h2, X12_inN k 10 (by omega) (by decide), bd2_some, bI_if]
  by_cases h3 : ¬ (isN k 10 = true)
  · exact ⟨c, by rw [if_neg h3, if_neg (fun q => h3 q.2.2.1)]; rfl⟩
  replace h3 := Decidable.not_not.mp h3
  rw [if_pos h3, X12_inN what 2 (by omega) (by decide), bd2_some, bI_if]
  by_cases h4 : ¬ (isN what 2 = true)
  · exact ⟨c, by rw [if_neg h4, if_neg (fun q => h4 q.2.2.2.1)]; rfl⟩
  replace h4 := Decidable.not_not.mp h4
  rw [if_pos h4, X12_inN part 2 (by omega) (by decide), bd2_some, bI_if]
  by_cases h5 : ¬ (isN part 2 = true)
  · exact ⟨c, by rw [if_neg h5, if_neg (fun q => h5 q.2.2.2.2.1)]; rfl⟩
  replace h5 := Decidable.not_not.mp h5
  rw [if_pos h5, X12_count, bd2_some]
  have h30 := numS_le set
  by_cases h6 : ¬ (numS set ≤ 9)
  · exact ⟨c, by rw [if_neg (show ¬ nI (numS set) ≤ 9 from nI_ge (a := 9) (by omega) (by omega)), if_neg (fun q => h6 q.2.2.2.2.2)]; rfl⟩
  replace h6 := Decidable.not_not.mp h6
  rw [if_pos (show nI (numS set) ≤ 9 from nI_le (b := 9) h6 (by omega)), if_pos ⟨h1, h2, h3, h4, h5, h6⟩]
  obtain ⟨a, ha, rfl⟩ := isN_of (by omega) h1
  obtain ⟨k, hk, rfl⟩ := isN_of (by omega) h3
  obtain ⟨-, eh, hh, -⟩ := hx.1 a ha
  obtain ⟨c1, g1, g2, g3⟩ := X12_counts (m := m) (c := c) (B := B) hs set (show hitN o.1 a < 2 ^ 20 by omega)
  have hcn : cnN set (sN o.1 1) ≤ 9 := Nat.le_trans (numS_cn set hn) h6
  obtain ⟨p1, p2⟩ := al_lt hs hcn
  have hof := or_fewer o.1 set (hitN o.1 a) (sN o.1 1) (by omega) (show k ≤ 11 by omega)
  have hwk : wyN o.1 set (hitN o.1 a) (sN o.1 1) k ≤ alN o.1 set (sN o.1 1) := by
    have := wy_sum o.1 set (hitN o.1 a) (sN o.1 1) 10 (by omega)
    rw [← this]
    exact smN_ge _ (by omega)
  refine ⟨c1, ?_⟩
  rw [nN_nI (by omega), nN_nI (by omega), mR_1, ob, mA_s m o c B (i := 310 + nI a) (k := 310 + a) (nI_add 310 a) (by omega), eh, ob, hM_C, if_pos rfl, g1, ob]
  unfold oddsV
  by_cases h : what = 0
  · rw [if_pos h, if_pos h, hM_C, if_pos rfl, X12_orMore g2 (by omega), bd2_some, mL_14, ob, g3, X12_lowest (by omega) (by omega) p1, bd2_some]; rfl
  · rw [if_neg h, if_neg h, mR_13, ob, mA_w m o c1 B (i := nI k) (k := k) rfl (by omega), ob, g2 k (by omega), mL_14, ob, g3, X12_lowest (by omega) (by omega) p1, bd2_some]; rfl
theorem X12_bestOfMen (hs : sOk o.1) {tx : Nat → List Cl} (hx : txOk o.1 tx) {a : Nat} (ha : a < sN o.1 2) {k : Nat} (hk : k < 10) (part : Int32) : ∃ c', f_X12_bestOfMen (hM m o c B) m (nI a) (nI k) part = some (bestV o.1 (cntS o.1 (tx a) a) (hitN o.1 a) k part, hM m o c' B) := by
  have hp := hs.2.1
  have hn := hs.2.2.1
  have hn2 := hs.2.2.2.1
  obtain ⟨x1, eh, hh, -⟩ := hx.1 a ha
  obtain ⟨c1, h1⟩ := X12_counted (m := m) (c := c) (B := B) hs (show a < 10 by omega) x1
  unfold f_X12_bestOfMen bestV
  rw [hM_C, if_pos rfl, h1, bd2_some, X12_count, bd2_some]
  generalize hset : cntS o.1 (tx a) a = set
  have h30 := numS_le set
  by_cases h6 : ¬ (numS set ≤ 9)
  · exact ⟨c1, by rw [if_neg (show ¬ nI (numS set) ≤ 9 from nI_ge (a := 9) (by omega) (by omega)), if_neg h6]; rfl⟩
  replace h6 := Decidable.not_not.mp h6
  rw [if_pos (show nI (numS set) ≤ 9 from nI_le (b := 9) h6 (by omega)), if_pos h6]
  have hcn : cnN set (sN o.1 1) ≤ 9 := Nat.le_trans (numS_cn set hn) h6
  obtain ⟨p1, p2⟩ := al_lt hs hcn
  have hall := pr_al hs set (sN o.1 1) (Nat.le_refl _)
  have hle : prN (fun man => fewN o.1 (manS o.1 set man) (hitN o.1 a) k) 6 ≤ alN o.1 set (sN o.1 1) := by
    rw [← hall]
    refine prN_le (fun man _ => ?_)
    have := or_fewer o.1 (manS o.1 set man) (hitN o.1 a) (sN o.1 1) (by have := cnN_man hs set man; omega) (show k ≤ 11 by omega)
    show smN _ k ≤ _
    omega
  have L : ∀ (d i f : Nat) (c : MC), i + d = 6 → d < f → ∃ c', f_X12_bestOfMen_L30 m (nI a) (nI k) set (f_X12_bestOfMen_K89 part) f (lN (prN (fun man => fewN o.1 (manS o.1 set man) (hitN o.1 a) k) i)) (lN (prN (fun man => alN o.1 (manS o.1 set man) (sN o.1 1)) i)) (nI i) (hM m o c B) = some (frL (alN o.1 set (sN o.1 1) - prN (fun man => fewN o.1 (manS o.1 set man) (hitN o.1 a) k) 6) (alN o.1 set (sN o.1 1)) part, hM m o c' B) := by
    intro d
    induction d with
    | zero =>
      intro i f c hi hf
      obtain ⟨f, rfl⟩ : ∃ g, f = g + 1 := ⟨f - 1, by omega⟩
      refine ⟨c, ?_⟩
      rw [f_X12_bestOfMen_L30]
      unfold f_X12_bestOfMen_B30
      rw [if_pos (show (6 : Int32) ≤ nI i from (nI_leI (a := 6) (b := i) (by omega) (by omega)).mpr (by omega))]
      unfold f_X12_bestOfMen_K89
      rw [show i = 6 by omega, hall, lN_sub hle, X12_lowest (by omega) (by omega) p1, bd2_some]
      rfl
    | succ d ih =>
      intro i f c hi hf
      obtain ⟨f, rfl⟩ : ∃ g, f = g + 1 := ⟨f - 1, by omega⟩
      obtain ⟨c2, g1, g2, g3⟩ := X12_counts (m := m) (c := c) (B := B) hs (manS o.1 set i) (show hitN o.1 a < 2 ^ 20 by omega)
      obtain ⟨c3, h3⟩ := ih (i + 1) f c2 (by omega) (by omega)
      refine ⟨c3, ?_⟩
      have hof := or_fewer o.1 (manS o.1 set i) (hitN o.1 a) (sN o.1 1) (by have := cnN_man hs set i; omega) (show k ≤ 11 by omega)
      rw [f_X12_bestOfMen_L30]
      unfold f_X12_bestOfMen_B30
      rw [if_neg (show ¬ (6 : Int32) ≤ nI i from fun q => by have := (nI_leI (a := 6) (b := i) (by omega) (by omega)).mp q; omega), hM_C, if_pos rfl, X12_manS hs set (by omega), bd2_some, mR_1, ob, mA_s m o c B (i := 310 + nI a) (k := 310 + a) (nI_add 310 a) (by omega), eh, ob, hM_C, if_pos rfl, g1, ob, mL_14, ob, hM_C, if_pos rfl, X12_orMore g2 (by omega), bd2_some, mL_14, ob, g3, lN_sub (by omega), lN_mul, lN_mul, nI_1, ← h3]
      have e2 : alN o.1 (manS o.1 set i) (sN o.1 1) - orN (wyN o.1 (manS o.1 set i) (hitN o.1 a) (sN o.1 1)) k = fewN o.1 (manS o.1 set i) (hitN o.1 a) k := by
        show _ = smN _ k
        omega
      rw [e2]
      rfl
  obtain ⟨c4, h4⟩ := L 6 0 FU c1 (by omega) (by show 6 < 100000; omega)
  exact ⟨c4, h4⟩
theorem X12_aloneOf (hs : sOk o.1) {tx : Nat → List Cl} (hx : txOk o.1 tx) {a : Nat} (ha : a < sN o.1 2) {k : Nat} (hk : k < 10) (part : Int32) : ∃ c', f_X12_aloneOf (hM m o c B) m (nI a) (nI k) part = some (aloV o.1 (cntS o.1 (tx a) a) (hitN o.1 a) k part, hM m o c' B) := by
  have hp := hs.2.1
  have hn := hs.2.2.1
  have hn2 := hs.2.2.2.1
  obtain ⟨x1, eh, hh, -⟩ := hx.1 a ha
  obtain ⟨c1, h1⟩ := X12_counted (m := m) (c := c) (B := B) hs (show a < 10 by omega) x1
  unfold f_X12_aloneOf
  rw [hM_C, if_pos rfl, h1, bd2_some, mR_1, ob, mA_s m o c1 B (i := 310 + nI a) (k := 310 + a) (nI_add 310 a) (by omega), eh, ob, hM_C, if_pos rfl, X12_hitsN hs _ (by omega), bd2_some]
  generalize hset : cntS o.1 (tx a) a = set
  generalize hhit : hitS o.1 set (hitN o.1 a) = hits
  let F := fun man => decide (manS o.1 set man ≠ 0)
  let G := fun man => numS (manS o.1 hits man)
  have K : ∃ c', f_X12_aloneOf_K107 m (nI a) (nI k) part set (match aloN F G 6 with | none => -1 | some b => nI b) (hM m o c1 B) = some (aloV o.1 set (hitN o.1 a) k part, hM m o c' B) := by
    unfold f_X12_aloneOf_K107 aloV
    rw [hhit]
    show ∃ c', (if (match aloN F G 6 with | none => -1 | some b => nI b) = -1 then _ else _) = some ((match aloN F G 6 with | none => NOl | some b => if numS (manS o.1 set b) ≤ 9 then oddsV o.1 (manS o.1 set b) (hitN o.1 a) k 0 part else NOl), _)
    cases hb : aloN F G 6 with
    | none => exact ⟨c1, rfl⟩
    | some b =>
      have hb6 := aloN_lt F G 6 b hb
      have hne : ¬ nI b = -1 := fun q => by
        have h2 : (nI b).toInt = -1 := by rw [q]; rfl
        rw [nI_toInt (by omega)] at h2
        omega
      obtain ⟨c2, g1, g2, g3⟩ := X12_counts (m := m) (c := c1) (B := B) hs (manS o.1 set b) (show hitN o.1 a < 2 ^ 20 by omega)
      refine ⟨if numS (manS o.1 set b) ≤ 9 then c2 else c1, ?_⟩
      simp only []
      rw [if_neg hne, hM_C, if_pos rfl, X12_manS hs set hb6, bd2_some, X12_count, bd2_some]
      have h30 := numS_le (manS o.1 set b)
      by_cases h6 : numS (manS o.1 set b) ≤ 9
      · have hcn : cnN (manS o.1 set b) (sN o.1 1) ≤ 9 := Nat.le_trans (numS_cn _ hn) h6
        obtain ⟨p1, p2⟩ := al_lt hs hcn
        have hof := or_fewer o.1 (manS o.1 set b) (hitN o.1 a) (sN o.1 1) (by omega) (show k ≤ 11 by omega)
        rw [if_pos (show nI (numS (manS o.1 set b)) ≤ 9 from nI_le (b := 9) h6 (by omega)), if_pos h6, if_pos h6, hM_C, if_pos rfl, X12_manS hs set hb6, bd2_some, mR_1, ob, mA_s m o c1 B (i := 310 + nI a) (k := 310 + a) (nI_add 310 a) (by omega), eh, ob, hM_C, if_pos rfl, g1, ob, hM_C, if_pos rfl, X12_orMore g2 (by omega), bd2_some, mL_14, ob, g3, X12_lowest (by omega) (by omega) p1, bd2_some]
        rfl
      · rw [if_neg (show ¬ nI (numS (manS o.1 set b)) ≤ 9 from nI_ge (a := 9) (by omega) (by omega)), if_neg h6, if_neg h6]
        rfl
  obtain ⟨c9, K⟩ := K
  refine ⟨c9, ?_⟩
  rw [← K]
  have L : ∀ (d i f : Nat), i + d = 6 → d < f → f_X12_aloneOf_L31 m hits set (f_X12_aloneOf_K107 m (nI a) (nI k) part set) f (match aloN F G i with | none => -1 | some b => nI b) (nI i) (hM m o c1 B) = f_X12_aloneOf_K107 m (nI a) (nI k) part set (match aloN F G 6 with | none => -1 | some b => nI b) (hM m o c1 B) := by
    intro d
    induction d with
    | zero =>
      intro i f hi hf
      obtain ⟨f, rfl⟩ : ∃ g, f = g + 1 := ⟨f - 1, by omega⟩
      rw [f_X12_aloneOf_L31]
      unfold f_X12_aloneOf_B31
      rw [if_pos (show (6 : Int32) ≤ nI i from (nI_leI (a := 6) (b := i) (by omega) (by omega)).mpr (by omega)), show i = 6 by omega]
    | succ d ih =>
      intro i f hi hf
      obtain ⟨f, rfl⟩ : ∃ g, f = g + 1 := ⟨f - 1, by omega⟩
      rw [f_X12_aloneOf_L31]
      unfold f_X12_aloneOf_B31 f_X12_aloneOf_J85
      rw [if_neg (show ¬ (6 : Int32) ≤ nI i from fun q => by have := (nI_leI (a := 6) (b := i) (by omega) (by omega)).mp q; omega), hM_C, if_pos rfl, X12_manS hs set (by omega), bd2_some, nI_1, ← ih (i + 1) f (by omega) (by omega)]
      by_cases h0 : manS o.1 set i = 0
      · rw [if_pos h0, if_pos rfl]
        have hF : F i = false := by simp [F, h0]
        have : aloN F G (i + 1) = aloN F G i := by
          rw [aloN]
          cases aloN F G i <;> simp [hF]
        rw [this]
      · rw [if_neg h0]
        have hF : F i = true := by simp [F, h0]
        cases hb : aloN F G i with
        | none =>
          simp only []
          rw [if_pos trivial, if_neg (by decide)]
          have : aloN F G (i + 1) = some i := by
            unfold aloN
            rw [hb]
            simp [hF]
          rw [this]
        | some b =>
          have hb6 := aloN_lt F G i b hb
          have hne : ¬ nI b = -1 := fun q => by
            have h2 : (nI b).toInt = -1 := by rw [q]; rfl
            rw [nI_toInt (by omega)] at h2
            omega
          simp only []
          rw [if_neg hne, hM_C, if_pos rfl, X12_manS hs hits (by omega), bd2_some, X12_count, bd2_some, hM_C, if_pos rfl, X12_manS hs hits (by omega), bd2_some, X12_count, bd2_some]
          have q1 := numS_le (manS o.1 hits i)
          have q2 := numS_le (manS o.1 hits b)
          by_cases h2 : numS (manS o.1 hits i) ≤ numS (manS o.1 hits b)
          · rw [if_pos (nI_le h2 (by omega)), if_pos trivial]
            have : aloN F G (i + 1) = some b := by
              unfold aloN
              rw [hb]
              show (if F i = true ∧ G b < G i then _ else _) = _
              rw [if_neg (fun q => absurd q.2 (Nat.not_lt.mpr h2))]
            rw [this]
          · rw [if_neg (nI_ge (Nat.not_le.mp h2) (by omega)), if_neg (by decide)]
            have : aloN F G (i + 1) = some i := by
              unfold aloN
              rw [hb]
              show (if F i = true ∧ G b < G i then _ else _) = _
              rw [if_pos ⟨hF, Nat.not_le.mp h2⟩]
            rw [this]
  exact L 6 0 FU (by omega) (by show 6 < 100000; omega)
theorem X12_best (hs : sOk o.1) {tx : Nat → List Cl} (hx : txOk o.1 tx) (a k what part : Int32) : ∃ c', f_X12_best (hM m o c B) m a k what part = some (if isN a (sN o.1 2) = true ∧ isN k 10 = true ∧ isN what 2 = true ∧ isN part 2 = true then (if what = 0 then bestV o.1 (cntS o.1 (tx (nN a)) (nN a)) (hitN o.1 (nN a)) (nN k) part else aloV o.1 (cntS o.1 (tx (nN a)) (nN a)) (hitN o.1 (nN a)) (nN k) part) else NOl, hM m o c' B) := by
  have hn2 := hs.2.2.2.1
  unfold f_X12_best
  rw [hM_C, if_pos rfl, X12_isPlan hs, bd2_some, bI_if]
  by_cases h1 : ¬ (isN a (sN o.1 2) = true)
  · exact ⟨c, by rw [if_neg h1, if_neg (fun q => h1 q.1)]; rfl⟩
  replace h1 := Decidable.not_not.mp h1
  rw [if_pos h1, X12_inN k 10 (by omega) (by decide), bd2_some, bI_if]
  by_cases h3 : ¬ (isN k 10 = true)
  · exact ⟨c, by rw [if_neg h3, if_neg (fun q => h3 q.2.1)]; rfl⟩
  replace h3 := Decidable.not_not.mp h3
  rw [if_pos h3, X12_inN what 2 (by omega) (by decide), bd2_some, bI_if]
  by_cases h4 : ¬ (isN what 2 = true)
  · exact ⟨c, by rw [if_neg h4, if_neg (fun q => h4 q.2.2.1)]; rfl⟩
  replace h4 := Decidable.not_not.mp h4
  rw [if_pos h4, X12_inN part 2 (by omega) (by decide), bd2_some, bI_if]
  by_cases h5 : ¬ (isN part 2 = true)
  · exact ⟨c, by rw [if_neg h5, if_neg (fun q => h5 q.2.2.2)]; rfl⟩
  replace h5 := Decidable.not_not.mp h5
  have hc : isN a (sN o.1 2) = true ∧ isN k 10 = true ∧ isN what 2 = true ∧ isN part 2 = true := ⟨h1, h3, h4, h5⟩
  rw [if_pos h5, if_pos hc]
  clear hc
  obtain ⟨a, ha, rfl⟩ := isN_of (by omega) h1
  obtain ⟨k, hk, rfl⟩ := isN_of (by omega) h3
  rw [nN_nI (by omega), nN_nI (by omega)]
  by_cases h : what = 0
  · obtain ⟨c1, g1⟩ := X12_bestOfMen (m := m) (c := c) (B := B) hs hx ha hk part
    exact ⟨c1, by rw [if_pos h, if_pos h, hM_C, if_pos rfl, g1, bd2_some]⟩
  · obtain ⟨c1, g1⟩ := X12_aloneOf (m := m) (c := c) (B := B) hs hx ha hk part
    exact ⟨c1, by rw [if_neg h, if_neg h, hM_C, if_pos rfl, g1, bd2_some]⟩
end ODDS2
