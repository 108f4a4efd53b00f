/-! THE REFERENCE: fixed, beats, otherwise, afterwards -/
def amin (f : Nat → Nat) : Nat → Nat
  | 0 => 0
  | n + 1 => if f n < f (amin f n) then n else amin f n
def amax (f : Nat → Nat) : Nat → Nat
  | 0 => 0
  | n + 1 => if f (amax f n) < f n then n else amax f n
theorem amin_lt (f : Nat → Nat) : ∀ n, amin f n ≤ n := by
  intro n
  induction n with
  | zero => exact Nat.le_refl _
  | succ n ih => unfold amin; split <;> omega
theorem amax_lt (f : Nat → Nat) : ∀ n, amax f n ≤ n := by
  intro n
  induction n with
  | zero => exact Nat.le_refl _
  | succ n ih => unfold amax; split <;> omega
def sumN (s : Nat → Int32) (set : Int32) (p : Nat) : Nat := smN (fun t => if bt set t then dist (tPipe s t) p else 0) (sN s 1)
def ownN (s : Nat → Int32) (set : Int32) : Nat := smN (fun t => if bt set t then tNear s t else 0) (sN s 1)
def othN (s : Nat → Int32) (set : Int32) (hit p : Nat) : Nat := smN (fun t => if bt set t && decide (dist (tPipe s t) p ≤ hit) then 1 else 0) (sN s 1)
def aftN (s : Nat → Int32) (set : Int32) (hit : Nat) : Nat := orN (wyN s set hit (sN s 1)) (numS (hitS s set hit))
theorem sumN_lt {s : Nat → Int32} (hs : sOk s) (set : Int32) {p : Nat} (hp : p ≤ 100) : sumN s set p < 2 ^ 20 := by
  have hn := hs.2.2.1
  have h0 := hs.2.1
  have : sumN s set p ≤ sN s 1 * 200 := smN_le (fun t ht => by
    obtain ⟨-, -, -, -, -, -, -, -, -, h4, -⟩ := hs.2.2.2.2.2.2 t ht
    show (if _ then _ else 0) ≤ 200
    split
    · have : dist (tPipe s t) p < 201 := dist_lt (by omega) (by omega)
      omega
    · omega)
  have : sN s 1 * 200 ≤ 30 * 200 := Nat.mul_le_mul_right _ hn
  omega
theorem ownN_lt {s : Nat → Int32} (hs : sOk s) (set : Int32) : ownN s set < 2 ^ 20 := by
  have hn := hs.2.2.1
  have h0 := hs.2.1
  have : ownN s set ≤ sN s 1 * 200 := smN_le (fun t ht => by
    obtain ⟨-, -, -, -, -, -, -, -, -, h4, h5, -⟩ := hs.2.2.2.2.2.2 t ht
    show (if _ then _ else 0) ≤ 200
    split
    · have : tNear s t < 201 := dist_lt (by omega) (by omega)
      omega
    · omega)
  have : sN s 1 * 200 ≤ 30 * 200 := Nat.mul_le_mul_right _ hn
  omega
theorem othN_le {s : Nat → Int32} (hs : sOk s) (set : Int32) (hit p : Nat) : othN s set hit p ≤ 30 := by
  have hn := hs.2.2.1
  have : othN s set hit p ≤ sN s 1 * 1 := smN_le (fun t ht => by
    show (if _ then _ else 0) ≤ 1
    split <;> omega)
  omega
theorem smN_mono {f g : Nat → Nat} : ∀ {n : Nat}, (∀ i, i < n → f i ≤ g i) → smN f n ≤ smN g n := by
  intro n
  induction n with
  | zero => intro _; exact Nat.le_refl _
  | succ n ih =>
    intro h
    have h1 := h n (Nat.lt_succ_self n)
    have h2 := ih (fun i hi => h i (Nat.lt_succ_of_lt hi))
    unfold smN
    omega
theorem hitS_bt {s : Nat → Int32} (hs : sOk s) (set : Int32) (hit : Nat) {t : Nat} (ht : t < 32) : bt (hitS s set hit) t = (decide (t < sN s 1) && (bt set t && decide (tNear s t ≤ hit))) := by
  have hn := hs.2.2.1
  unfold hitS
  rw [bits_bt _ _ (by omega) t ht]
theorem hitS_le {s : Nat → Int32} (hs : sOk s) (set : Int32) (hit : Nat) : numS (hitS s set hit) ≤ numS set := by
  refine smN_mono (fun k hk => ?_)
  show (if _ then 1 else 0) ≤ (if _ then 1 else 0)
  rw [hitS_bt hs set hit (by omega)]
  cases bt set k <;> simp
  split <;> omega
/-- the answer of beats -/
def beatS (s : Nat → Int32) (set : Int32) : Int32 := bits (fun man => decide (manS s set man ≠ 0 ∧ ownN s (manS s set man) < sumN s (manS s set man) (sN s 0 / 2))) 6
section REF4
variable {m : Nat} {o : MO} {c : MC} {B : HSt}
theorem X12_sumN (hs : sOk o.1) (set : Int32) {p : Nat} (hp : p < 2 ^ 20) : f_X12_sumFrom (hM m o c B) m set (nI p) = some (nI (sumN o.1 set p), hM m o c B) := X12_sumFrom hs set hp
theorem X12_fixed (hs : sOk o.1) {tx : Nat → List Cl} (hx : txOk o.1 tx) (a man : Int32) : ∃ c', f_X12_fixed (hM m o c B) m a man = some (if isN a (sN o.1 2) = true ∧ isN man 6 = true then (if manS o.1 (cntS o.1 (tx (nN a)) (nN a)) (nN man) = 0 then -5 else nI (amin (sumN o.1 (manS o.1 (cntS o.1 (tx (nN a)) (nN a)) (nN man))) (sN o.1 0))) else -1, hM m o c' B) := by
  have hp := hs.2.1
  have hn2 := hs.2.2.2.1
  unfold f_X12_fixed
  rw [hM_C, if_pos rfl, X12_isPlan hs, bd2_some, bI_if]
  by_cases h1 : ¬ isN a (sN o.1 2) = true
  · exact ⟨c, by rw [if_neg h1, if_neg (fun q => h1 q.1)]⟩
  replace h1 := Decidable.not_not.mp h1
  rw [if_pos h1, X12_isMan, bd2_some, bI_if]
  by_cases h2 : ¬ isN man 6 = true
  · exact ⟨c, by rw [if_neg h2, if_neg (fun q => h2 q.2)]⟩
  replace h2 := Decidable.not_not.mp h2
  have hc : isN a (sN o.1 2) = true ∧ isN man 6 = true := ⟨h1, h2⟩
  rw [if_pos h2, if_pos hc]
  obtain ⟨a, ha, rfl⟩ := isN_of (by omega) h1
  obtain ⟨man, hm, rfl⟩ := isN_of (by omega) h2
  obtain ⟨x1, -⟩ := hx.1 a ha
  obtain ⟨c1, g1⟩ := X12_counted (m := m) (c := c) (B := B) hs (show a < 10 by omega) x1
  refine ⟨c1, ?_⟩
  rw [nN_nI (by omega), nN_nI (by omega), hM_C, if_pos rfl, g1, bd2_some, hM_C, if_pos rfl, X12_manS hs _ hm, bd2_some]
  generalize manS o.1 (cntS o.1 (tx a) a) man = set
  by_cases h0 : set = 0
  · rw [if_pos h0, if_pos h0]
  rw [if_neg h0, if_neg h0]
  have L : ∀ (d i f : Nat), 1 ≤ i → i + d = sN o.1 0 → d < f → f_X12_fixed_L41 m set f_X12_fixed_K84 f (nI (amin (sumN o.1 set) i)) (nI i) (hM m o c1 B) = some (nI (amin (sumN o.1 set) (sN o.1 0)), hM m o c1 B) := by
    intro d
    induction d with
    | zero =>
      intro i f h1 hi hf
      obtain ⟨f, rfl⟩ : ∃ g, f = g + 1 := ⟨f - 1, by omega⟩
      rw [f_X12_fixed_L41]
      unfold f_X12_fixed_B41
      rw [mR_1, ob, mA_0, ob, hs.1 0 (by omega), if_pos (nI_le (by omega) (by omega)), show i = sN o.1 0 by omega]
      rfl
    | succ d ih =>
      intro i f h1 hi hf
      obtain ⟨f, rfl⟩ : ∃ g, f = g + 1 := ⟨f - 1, by omega⟩
      have hb := amin_lt (sumN o.1 set) i
      have q1 := sumN_lt hs set (show i ≤ 100 by omega)
      have q2 := sumN_lt hs set (show amin (sumN o.1 set) i ≤ 100 by omega)
      rw [f_X12_fixed_L41]
      unfold f_X12_fixed_B41
      rw [mR_1, ob, mA_0, ob, hs.1 0 (by omega), if_neg (nI_ge (by omega) (by omega)), hM_C, if_pos rfl, X12_sumN hs set (by omega), bd2_some, hM_C, if_pos rfl, X12_sumN hs set (by omega), bd2_some, nI_1, ← ih (i + 1) f (by omega) (by omega) (by omega)]
      by_cases h : sumN o.1 set i < sumN o.1 set (amin (sumN o.1 set) i)
      · rw [if_neg (nI_ge h (by omega)), amin, if_pos h]
      · rw [if_pos (nI_le (Nat.not_lt.mp h) (by omega)), amin, if_neg h]
  have L1 := L (sN o.1 0 - 1) 1 FU (by omega) (by omega) (by show _ < 100000; omega)
  have a1 : amin (sumN o.1 set) 1 = 0 := by simp [amin]
  rw [a1] at L1
  exact L1
theorem X12_beats (hs : sOk o.1) {tx : Nat → List Cl} (hx : txOk o.1 tx) (a : Int32) : ∃ c', f_X12_beats (hM m o c B) m a = some (if isN a (sN o.1 2) = true then beatS o.1 (cntS o.1 (tx (nN a)) (nN a)) else -1, hM m o c' B) := by
  have hp := hs.2.1
  have hn := hs.2.2.1
  have hn2 := hs.2.2.2.1
  unfold f_X12_beats
  rw [hM_C, if_pos rfl, X12_isPlan hs, bd2_some, bI_if]
  by_cases h1 : ¬ isN a (sN o.1 2) = true
  · exact ⟨c, by rw [if_neg h1, if_neg h1]⟩
  replace h1 := Decidable.not_not.mp h1
  rw [if_pos h1, if_pos h1]
  obtain ⟨a, ha, rfl⟩ := isN_of (by omega) h1
  obtain ⟨x1, -⟩ := hx.1 a ha
  obtain ⟨c1, g1⟩ := X12_counted (m := m) (c := c) (B := B) hs (show a < 10 by omega) x1
  refine ⟨c1, ?_⟩
  rw [nN_nI (by omega), hM_C, if_pos rfl, g1, bd2_some]
  generalize cntS o.1 (tx a) a = all
  unfold beatS
  generalize hPd : (fun man => decide (manS o.1 all man ≠ 0 ∧ ownN o.1 (manS o.1 all man) < sumN o.1 (manS o.1 all man) (sN o.1 0 / 2))) = P
  have L : ∀ (d i f : Nat), i + d = 6 → d < f → f_X12_beats_L21 m all f_X12_beats_K127 f (bits P i) (nI i) (hM m o c1 B) = some (bits P 6, hM m o c1 B) := by
    intro d
    induction d with
    | zero =>
      intro i f hi hf
      obtain ⟨f, rfl⟩ : ∃ g, f = g + 1 := ⟨f - 1, by omega⟩
      rw [f_X12_beats_L21]
      unfold f_X12_beats_B21
      rw [if_pos (show (6 : Int32) ≤ nI i from (nI_leI (a := 6) (b := i) (by omega) (by omega)).mpr (by omega)), show i = 6 by omega]
      rfl
    | succ d ih =>
      intro i f hi hf
      obtain ⟨f, rfl⟩ : ∃ g, f = g + 1 := ⟨f - 1, by omega⟩
      rw [f_X12_beats_L21]
      unfold f_X12_beats_B21
      rw [if_neg (show ¬ (6 : Int32) ≤ nI i from fun q => by have := (nI_leI (a := 6) (b := i) (by omega) (by omega)).mp q; omega), hM_C, if_pos rfl, X12_manS hs all (by omega), bd2_some]
      generalize hset : manS o.1 all i = set
      have M : ∀ (d j g : Nat), j + d = sN o.1 1 → d < g → f_X12_beats_L43 m set (f_X12_beats_K86 m (f_X12_beats_L21 m all f_X12_beats_K127 f) set (bits P i) (nI i)) g (nI (smN (fun t => if bt set t then tNear o.1 t else 0) j)) (nI j) (hM m o c1 B) = f_X12_beats_K86 m (f_X12_beats_L21 m all f_X12_beats_K127 f) set (bits P i) (nI i) (nI (ownN o.1 set)) (hM m o c1 B) := by
        intro d
        induction d with
        | zero =>
          intro j g hj hg
          obtain ⟨g, rfl⟩ : ∃ e, g = e + 1 := ⟨g - 1, by omega⟩
          rw [f_X12_beats_L43]
          unfold f_X12_beats_B43
          rw [mR_1, ob, mA_1, ob, hs.1 1 (by omega), if_pos (nI_le (by omega) (by omega)), show j = sN o.1 1 by omega]
          rfl
        | succ d ih2 =>
          intro j g hj hg
          obtain ⟨g, rfl⟩ : ∃ e, g = e + 1 := ⟨g - 1, by omega⟩
          rw [f_X12_beats_L43]
          unfold f_X12_beats_B43
          rw [mR_1, ob, mA_1, ob, hs.1 1 (by omega), if_neg (nI_ge (by omega) (by omega)), nI_1, ← ih2 (j + 1) g (by omega) (by omega)]
          by_cases hb : bt set j = true
          · rw [if_pos ((b_ask1 set (by omega)).mpr hb), hM_C, if_pos rfl, X12_nearOf hs (by omega), bd2_some, nI_add]
            simp only [smN, hb, if_true]
          · rw [if_neg (fun q => hb ((b_ask1 set (by omega)).mp q))]
            have e0 : ∀ x, nI x + 0 = nI x := fun x => nI_add x 0
            rw [e0]
            simp [smN, hb]
      have e0 : (0 : Int32) = nI 0 := rfl
      have M0 := M (sN o.1 1) 0 FU (by omega) (by show _ < 100000; omega)
      rw [show nI (smN (fun t => if bt set t then tNear o.1 t else 0) 0) = 0 from rfl, show nI 0 = (0 : Int32) from rfl] at M0
      rw [M0]
      unfold f_X12_beats_K86
      have q1 := ownN_lt hs set
      have q2 := sumN_lt hs set (show sN o.1 0 / 2 ≤ 100 by omega)
      have hih := ih (i + 1) f (by omega) (by omega)
      have hPi : P i = decide (set ≠ 0 ∧ ownN o.1 set < sumN o.1 set (sN o.1 0 / 2)) := by
        rw [← hPd, ← hset]
      have ediv : nI (sN o.1 0) / 2 = nI (sN o.1 0 / 2) := pk_div (d := 2) (by omega) (by omega) (by omega)
      rw [mR_1, ob, mA_0, ob, hs.1 0 (by omega), hM_C, if_pos rfl, ediv, X12_sumN hs set (by omega), bd2_some, or_zero, nI_1, ← hih]
      simp only [bits]
      rw [hPi]
      by_cases h0 : set = 0
      · rw [if_pos h0]
        simp [h0]
      · rw [if_neg h0]
        by_cases h : ownN o.1 set < sumN o.1 set (sN o.1 0 / 2)
        · rw [if_neg (nI_ge h (by omega))]
          simp [h0, h]
        · rw [if_pos (nI_le (Nat.not_lt.mp h) (by omega))]
          simp [h]
  exact L 6 0 FU (by omega) (by show 6 < 100000; omega)
theorem nI_m1 {b : Nat} (h : b < 2 ^ 31) : ¬ nI b = -1 := fun q => by
  have h2 : (nI b).toInt = -1 := by rw [q]; rfl
  rw [nI_toInt h] at h2
  omega
theorem X12_otherwise (hs : sOk o.1) {tx : Nat → List Cl} (hx : txOk o.1 tx) (a : Int32) : ∃ c', f_X12_otherwise (hM m o c B) m a = some (if isN a (sN o.1 2) = true then (if cntS o.1 (tx (nN a)) (nN a) = 0 then -5 else nI (amax (othN o.1 (cntS o.1 (tx (nN a)) (nN a)) (hitN o.1 (nN a))) (sN o.1 0))) else -1, hM m o c' B) := by
  have hp := hs.2.1
  have hn := hs.2.2.1
  have hn2 := hs.2.2.2.1
  unfold f_X12_otherwise
  rw [hM_C, if_pos rfl, X12_isPlan hs, bd2_some, bI_if]
  by_cases h1 : ¬ isN a (sN o.1 2) = true
  · exact ⟨c, by rw [if_neg h1, if_neg h1]⟩
  replace h1 := Decidable.not_not.mp h1
  rw [if_pos h1, if_pos h1]
  obtain ⟨a, ha, rfl⟩ := isN_of (by omega) h1
  obtain ⟨x1, eh, hh, -⟩ := hx.1 a ha
  obtain ⟨c1, g1⟩ := X12_counted (m := m) (c := c) (B := B) hs (show a < 10 by omega) x1
  refine ⟨c1, ?_⟩
  rw [nN_nI (by omega), hM_C, if_pos rfl, g1, bd2_some]
  generalize cntS o.1 (tx a) a = set
  by_cases h0 : set = 0
  · rw [if_pos h0, if_pos h0]
  rw [if_neg h0, if_neg h0]
  -- one place
  have M : ∀ (p : Nat) (K : Int32 → HSt → Option (Int32 × HSt)), p < 100 → ∀ (d j g : Nat), j + d = sN o.1 1 → d < g → f_X12_otherwise_L48 m (nI a) set (nI p) K g (nI (smN (fun t => if bt set t && decide (dist (tPipe o.1 t) p ≤ hitN o.1 a) then 1 else 0) j)) (nI j) (hM m o c1 B) = K (nI (othN o.1 set (hitN o.1 a) p)) (hM m o c1 B) := by
    intro p K hpp d
    induction d with
    | zero =>
      intro j g hj hg
      obtain ⟨g, rfl⟩ : ∃ e, g = e + 1 := ⟨g - 1, by omega⟩
      rw [f_X12_otherwise_L48]
      unfold f_X12_otherwise_B48
      rw [mR_1, ob, mA_1, ob, hs.1 1 (by omega), if_pos (nI_le (by omega) (by omega)), show j = sN o.1 1 by omega]
      rfl
    | succ d ih2 =>
      intro j g hj hg
      obtain ⟨g, rfl⟩ : ∃ e, g = e + 1 := ⟨g - 1, by omega⟩
      obtain ⟨-, -, -, ep, -, -, -, -, -, hp4, -⟩ := hs.2.2.2.2.2.2 j (by omega)
      have hd : dist (tPipe o.1 j) p < 100 := dist_lt (by omega) (by omega)
      have e0 : ∀ x, nI x + 0 = nI x := fun x => nI_add x 0
      rw [f_X12_otherwise_L48]
      unfold f_X12_otherwise_B48
      rw [mR_1, ob, mA_1, ob, hs.1 1 (by omega), if_neg (nI_ge (by omega) (by omega)), nI_1, ← ih2 (j + 1) g (by omega) (by omega), ob, mA_s m o c1 B (i := 220 + nI j) (k := 220 + j) (nI_add 220 j) (by omega), ep, ob, X12_size _ (by omega) (by omega), bd2_some, mR_1, ob, mA_s m o c1 B (i := 310 + nI a) (k := 310 + a) (nI_add 310 a) (by omega), eh, ob, nI_1, e0]
      by_cases hb : bt set j = true
      · rw [if_pos ((b_ask1 set (by omega)).mpr hb)]
        by_cases hx : dist (tPipe o.1 j) p ≤ hitN o.1 a
        · rw [if_neg (nI_nlt hx (by omega))]
          simp [smN, hb, hx]
        · rw [if_pos (nI_lt (by omega) (by omega))]
          simp [smN, hb, hx]
      · rw [if_neg (fun q => hb ((b_ask1 set (by omega)).mp q))]
        simp [smN, hb]
  have M0 : ∀ (p : Nat) (K : Int32 → HSt → Option (Int32 × HSt)), p < 100 → f_X12_otherwise_L48 m (nI a) set (nI p) K FU 0 0 (hM m o c1 B) = K (nI (othN o.1 set (hitN o.1 a) p)) (hM m o c1 B) := fun p K hpp => M p K hpp (sN o.1 1) 0 FU (by omega) (by show _ < 100000; omega)
  generalize hG : othN o.1 set (hitN o.1 a) = G at *
  have hG2 : ∀ p, G p ≤ 30 := fun p => by rw [← hG]; exact othN_le hs set _ p
  have L : ∀ (d i f : Nat), 1 ≤ i → i + d = sN o.1 0 → d < f → f_X12_otherwise_L31 m (nI a) set f_X12_otherwise_K156 f (nI (amax G i)) (nI (G (amax G i))) (nI i) (hM m o c1 B) = some (nI (amax G (sN o.1 0)), hM m o c1 B) := by
    intro d
    induction d with
    | zero =>
      intro i f h1 hi hf
      obtain ⟨f, rfl⟩ : ∃ g, f = g + 1 := ⟨f - 1, by omega⟩
      rw [f_X12_otherwise_L31]
      unfold f_X12_otherwise_B31
      rw [mR_1, ob, mA_0, ob, hs.1 0 (by omega), if_pos (nI_le (by omega) (by omega)), show i = sN o.1 0 by omega]
      rfl
    | succ d ih =>
      intro i f h1 hi hf
      obtain ⟨f, rfl⟩ : ∃ g, f = g + 1 := ⟨f - 1, by omega⟩
      have hb := amax_lt G i
      have q1 := hG2 i
      have q2 := hG2 (amax G i)
      rw [f_X12_otherwise_L31]
      unfold f_X12_otherwise_B31
      rw [mR_1, ob, mA_0, ob, hs.1 0 (by omega), if_neg (nI_ge (by omega) (by omega)), M0 i _ (by omega)]
      unfold f_X12_otherwise_K115 f_X12_otherwise_J133
      rw [if_neg (nI_m1 (by omega)), nI_1, ← ih (i + 1) f (by omega) (by omega) (by omega)]
      by_cases h : G (amax G i) < G i
      · rw [if_neg (nI_ge h (by omega)), if_neg (nI_ge h (by omega)), amax, if_pos h]
      · rw [if_pos (nI_le (Nat.not_lt.mp h) (by omega)), if_pos (nI_le (Nat.not_lt.mp h) (by omega)), amax, if_neg h]
  show f_X12_otherwise_L31 m (nI a) set f_X12_otherwise_K156 (99999 + 1) (-1) 0 0 (hM m o c1 B) = _
  rw [f_X12_otherwise_L31]
  unfold f_X12_otherwise_B31
  rw [mR_1, ob, mA_0, ob, hs.1 0 (by omega), if_neg (show ¬ nI (sN o.1 0) ≤ 0 from nI_ge (a := 0) (by omega) (by omega))]
  have M1 := M0 0 (f_X12_otherwise_K115 (f_X12_otherwise_L31 m (nI a) set f_X12_otherwise_K156 99999) (-1) 0 0) (by omega)
  rw [show nI 0 = (0 : Int32) from rfl] at M1
  rw [M1]
  unfold f_X12_otherwise_K115 f_X12_otherwise_J133
  rw [if_pos rfl]
  have L1 := L (sN o.1 0 - 1) 1 99999 (by omega) (by omega) (by omega)
  have a1 : amax G 1 = 0 := by simp [amax]
  rw [a1] at L1
  rw [show (0 : Int32) + 1 = nI 1 from rfl, show (0 : Int32) = nI 0 from rfl]
  by_cases h : nI (G 0) ≤ nI 0
  · rw [if_pos h]
    have : G 0 = 0 := by
      have := (nI_leI (by have := hG2 0; omega) (by omega)).mp h
      omega
    rw [this] at L1
    exact L1
  · rw [if_neg h]
    exact L1
theorem X12_afterwards (hs : sOk o.1) {tx : Nat → List Cl} (hx : txOk o.1 tx) (a man : Int32) : ∃ c', f_X12_afterwards (hM m o c B) m a man = some (if isN a (sN o.1 2) = true ∧ isN man 6 = true then (if manS o.1 (cntS o.1 (tx (nN a)) (nN a)) (nN man) = 0 ∨ ¬ numS (manS o.1 (cntS o.1 (tx (nN a)) (nN a)) (nN man)) ≤ 9 then -5 else nI (amin (aftN o.1 (manS o.1 (cntS o.1 (tx (nN a)) (nN a)) (nN man))) 10)) else -1, hM m o c' B) := by
  have hp := hs.2.1
  have hn := hs.2.2.1
  have hn2 := hs.2.2.2.1
  unfold f_X12_afterwards
  rw [hM_C, if_pos rfl, X12_isPlan hs, bd2_some, bI_if]
  by_cases h1 : ¬ isN a (sN o.1 2) = true
  · exact ⟨c, by rw [if_neg h1, if_neg (fun q => h1 q.1)]⟩
  replace h1 := Decidable.not_not.mp h1
  rw [if_pos h1, X12_isMan, bd2_some, bI_if]
  by_cases h2 : ¬ isN man 6 = true
  · exact ⟨c, by rw [if_neg h2, if_neg (fun q => h2 q.2)]⟩
  replace h2 := Decidable.not_not.mp h2
  have hc : isN a (sN o.1 2) = true ∧ isN man 6 = true := ⟨h1, h2⟩
  rw [if_pos h2, if_pos hc]
  obtain ⟨a, ha, rfl⟩ := isN_of (by omega) h1
  obtain ⟨man, hm, rfl⟩ := isN_of (by omega) h2
  obtain ⟨x1, -⟩ := hx.1 a ha
  obtain ⟨c1, g1⟩ := X12_counted (m := m) (c := c) (B := B) hs (show a < 10 by omega) x1
  rw [nN_nI (by omega), nN_nI (by omega), hM_C, if_pos rfl, g1, bd2_some, hM_C, if_pos rfl, X12_manS hs _ hm, bd2_some, X12_count, bd2_some]
  generalize manS o.1 (cntS o.1 (tx a) a) man = set
  by_cases h0 : set = 0
  · exact ⟨c1, by rw [if_pos h0, if_pos (Or.inl h0)]⟩
  rw [if_neg h0]
  have h30 := numS_le set
  by_cases h6 : ¬ numS set ≤ 9
  · exact ⟨c1, by rw [if_neg (show ¬ nI (numS set) ≤ 9 from nI_ge (a := 9) (by omega) (by omega)), if_pos (Or.inr h6)]⟩
  have hne : ¬ (set = 0 ∨ ¬ numS set ≤ 9) := fun q => q.elim h0 h6
  replace h6 := Decidable.not_not.mp h6
  rw [if_neg hne, if_pos (show nI (numS set) ≤ 9 from nI_le (b := 9) h6 (by omega))]
  have hcn : cnN set (sN o.1 1) ≤ 9 := Nat.le_trans (numS_cn set hn) h6
  obtain ⟨p1, p2⟩ := al_lt hs hcn
  have hA : ∀ h, aftN o.1 set h < 2 ^ 62 := fun h => by
    have := or_fewer o.1 set h (sN o.1 1) (by omega) (show numS (hitS o.1 set h) ≤ 11 by have := hitS_le hs set h; omega)
    show orN _ _ < _
    omega
  have S1 : ∀ (h : Nat) (c : MC), h < 10 → ∃ c', ∀ (K : Int64 → HSt → Option (Int32 × HSt)), ((f_X12_counts (hM m o c B) m set (nI h)).bind fun S32 => if gC S32 m = some 12 then (bd2 (f_X12_hitsOf S32 m set (nI h)) fun v36 S35 => bd2 (f_X12_count1 S35 v36) fun v39 S38 => if gC S38 m = some 12 then (bd2 (f_X12_orMore S38 m v39) K) else none) else none) = K (lN (aftN o.1 set h)) (hM m o c' B) := by
    intro h c hh
    obtain ⟨c2, g1, g2, g3⟩ := X12_counts (m := m) (c := c) (B := B) hs set (show h < 2 ^ 20 by omega)
    refine ⟨c2, fun K => ?_⟩
    rw [g1, ob, hM_C, if_pos rfl, X12_hitsN hs set (by omega), bd2_some, X12_count, bd2_some, hM_C, if_pos rfl, X12_orMore g2 (by have := hitS_le hs set h; omega), bd2_some]
    rfl
  have L : ∀ (d i f : Nat) (c : MC), 1 ≤ i → i + d = 10 → d < f → ∃ c', f_X12_afterwards_L53 m set f_X12_afterwards_K134 f (nI (amin (aftN o.1 set) i)) (lN (aftN o.1 set (amin (aftN o.1 set) i))) (nI i) (hM m o c B) = some (nI (amin (aftN o.1 set) 10), hM m o c' B) := by
    intro d
    induction d with
    | zero =>
      intro i f c h1 hi hf
      obtain ⟨f, rfl⟩ : ∃ g, f = g + 1 := ⟨f - 1, by omega⟩
      refine ⟨c, ?_⟩
      rw [f_X12_afterwards_L53]
      unfold f_X12_afterwards_B53
      rw [if_pos (show (10 : Int32) ≤ nI i from (nI_leI (a := 10) (b := i) (by omega) (by omega)).mpr (by omega)), show i = 10 by omega]
      rfl
    | succ d ih =>
      intro i f c h1 hi hf
      obtain ⟨f, rfl⟩ : ∃ g, f = g + 1 := ⟨f - 1, by omega⟩
      obtain ⟨c2, k2⟩ := S1 i c (by omega)
      obtain ⟨c3, k3⟩ := ih (i + 1) f c2 (by omega) (by omega) (by omega)
      refine ⟨c3, ?_⟩
      have hb := amin_lt (aftN o.1 set) i
      rw [f_X12_afterwards_L53]
      unfold f_X12_afterwards_B53
      rw [if_neg (show ¬ (10 : Int32) ≤ nI i from fun q => by have := (nI_leI (a := 10) (b := i) (by omega) (by omega)).mp q; omega), hM_C, if_pos rfl, k2, if_neg (nI_m1 (by omega)), ← k3]
      unfold f_X12_afterwards_J104
      rw [if_neg (show ¬ nI i = 0 from nI_ne0 (by omega) (by omega)), if_neg (show ¬ nI i = 0 from nI_ne0 (by omega) (by omega)), nI_1]
      have q1 := hA i
      have q2 := hA (amin (aftN o.1 set) i)
      by_cases h : aftN o.1 set i < aftN o.1 set (amin (aftN o.1 set) i)
      · have hg : ¬ 0 ≤ lg_cmp (lN (aftN o.1 set i)) (lN (aftN o.1 set (amin (aftN o.1 set) i))) := fun q => by
          have := (pk_lLE (by omega) (by omega)).mp ((lg_cmp_ge _ _).mp q)
          omega
        rw [if_neg hg, if_neg hg, amin, if_pos h]
      · have hg : 0 ≤ lg_cmp (lN (aftN o.1 set i)) (lN (aftN o.1 set (amin (aftN o.1 set) i))) := (lg_cmp_ge _ _).mpr ((pk_lLE (by omega) (by omega)).mpr (by omega))
        rw [if_pos hg, if_pos hg, amin, if_neg h]
  obtain ⟨c2, k2⟩ := S1 0 c1 (by omega)
  obtain ⟨c3, k3⟩ := L 9 1 99999 c2 (by omega) (by omega) (by omega)
  refine ⟨c3, ?_⟩
  show f_X12_afterwards_L53 m set f_X12_afterwards_K134 (99999 + 1) (-1) 0 0 (hM m o c1 B) = _
  rw [f_X12_afterwards_L53]
  unfold f_X12_afterwards_B53
  rw [show nI 0 = (0 : Int32) from rfl] at k2
  rw [if_neg (by decide), hM_C, if_pos rfl, k2, if_pos rfl]
  unfold f_X12_afterwards_J104
  rw [if_pos rfl, ← k3]
  have a1 : amin (aftN o.1 set) 1 = 0 := by simp [amin]
  rw [a1]
  rfl
end REF4
