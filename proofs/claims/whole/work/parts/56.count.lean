/-! THE CLASS: which tries a plan counts, who passes, which tries a law has -/
/-- the class's texts are those that stand in s -/
def KX (s : Nat → Int32) (tx : Nat → List Cl) (k : KK) : Prop :=
  (∀ p, p < sN s 2 → TxC false (kTx k (2 * p)) (tx p) ∧ (kTx k (2 * p)).1 8 = s (310 + p) ∧ (kTx k (2 * p)).1 9 = s (315 + p)) ∧
  ∀ l, l < sN s 3 → TxC true (kTx k (2 * l + 1)) (tx (5 + l)) ∧ (kTx k (2 * l + 1)).1 10 = s (320 + l)
theorem and_man (s : Nat → Int32) (hs : sOk s) (set : Int32) (man : Nat) : set &&& bits (fun t => decide (tMan s t = man)) (sN s 1) = manS s set man := by
  have hn := hs.2.2.1
  apply b_ext
  intro i hi
  unfold manS
  rw [b_and, bits_bt _ _ (by omega) i hi, bits_bt _ _ (by omega) i hi]
  cases bt set i <;> cases decide (i < sN s 1) <;> rfl
theorem and_hit (s : Nat → Int32) (hs : sOk s) (set : Int32) (hit : Nat) : set &&& bits (fun t => decide (tNear s t ≤ hit)) (sN s 1) = hitS s set hit := by
  have hn := hs.2.2.1
  apply b_ext
  intro i hi
  unfold hitS
  rw [b_and, bits_bt _ _ (by omega) i hi, bits_bt _ _ (by omega) i hi]
  cases bt set i <;> cases decide (i < sN s 1) <;> rfl
theorem X_bitsN (S : HSt) (P : Nat → Bool) {N : Nat} (hN : N ≤ 30) : f_J6_bitCount_0f7a4 S (bits P N) = some (nI (numS (bits P N)), S) := by
  refine X_bitCount S _ ?_ ?_
  · rw [bits_bt P N (by omega) 30 (by omega), decide_eq_false (by omega)]; rfl
  · rw [bits_bt P N (by omega) 31 (by omega), decide_eq_false (by omega)]; rfl
section CLS2
variable {n : Nat} {ρ : Nat → Nat} {s : Nat → Int32} {k : KK} {B : HSt} {tx : Nat → List Cl}
theorem X_manC (hs : sOk s) (S : HSt) (set : Int32) (man : Nat) : f_J6_bitCount_0f7a4 S (manS s set man) = some (nI (numS (manS s set man)), S) := X_bitsN S _ hs.2.2.1
theorem X_hitC (hs : sOk s) (S : HSt) (set : Int32) (hit : Nat) : f_J6_bitCount_0f7a4 S (hitS s set hit) = some (nI (numS (hitS s set hit)), S) := X_bitsN S _ hs.2.2.1
theorem X_cntC (hs : sOk s) (S : HSt) (l : List Cl) (p : Nat) : f_J6_bitCount_0f7a4 S (cntS s l p) = some (nI (numS (cntS s l p)), S) := X_bitsN S _ hs.2.2.1
theorem X_setC (hs : sOk s) (S : HSt) {set : Int32} (h : isN set (2 ^ sN s 1) = true) : f_J6_bitCount_0f7a4 S set = some (nI (numS set), S) := X_bitCount S _ (isN_bt hs.2.2.1 h hs.2.2.1 (by omega)) (isN_bt hs.2.2.1 h (by have := hs.2.2.1; omega) (by omega))
theorem gC_tx {j : Nat} (hj : j < 10) : gC (hK n ρ k B) (txA n j) = some 7 := by
  have e := hT_C (txA n j) (tLet ρ j) (tFl j) (kTx k j) (hK n ρ k B)
  rw [← hK_tx0 n ρ k B hj] at e
  exact e
theorem gI_tx {j : Nat} (hj : j < 10) {i : Nat} (hi : i = 8 ∨ i = 9 ∨ i = 10) : gI (hK n ρ k B) (txA n j) 7 i = some ((kTx k j).1 i) := by
  have e8 := TI_8 (txA n j) (tLet ρ j) (tFl j) (kTx k j) (hK n ρ k B)
  have e9 := TI_9 (txA n j) (tLet ρ j) (tFl j) (kTx k j) (hK n ρ k B)
  have e10 := TI_10 (txA n j) (tLet ρ j) (tFl j) (kTx k j) (hK n ρ k B)
  rw [← hK_tx0 n ρ k B hj] at e8 e9 e10
  rcases hi with rfl | rfl | rfl
  · exact e8
  · exact e9
  · exact e10
theorem X11_counts (hs : sOk s) {t a : Nat} (ht : t < sN s 1) (hA : TA n s B t a) {j p : Nat} (hj : j < 10) {l : List Cl} (hx : TxC false (kTx k j) l) (hp : p < 5) : f_X7_counts (hK n ρ k B) (txA n j) a = some (bI (cntB s l p t), hK n ρ k B) := by
  have hcell : (hT (txA n j) (tLet ρ j) (tFl j) (kTx k j) (hK n ρ k B)).1 a = some (.inr (kcN (tKind s t), tyF (n + 10) s t)) := by
    rw [← hK_tx0 n ρ k B hj, hK_out n ρ k B (Or.inr (by have := hA.1; omega)), hA.2.2]
  have e := X7_counts (B := hK n ρ k B) hs ht hcell hx hp
  rw [← hK_tx0 n ρ k B hj] at e
  exact e
theorem X11_lawful (hs : sOk s) {t a : Nat} (ht : t < sN s 1) (hA : TA n s B t a) {j : Nat} (hj : j < 10) {cl : List Cl} (hx : TxC true (kTx k j) cl) (l : Nat) : f_X7_lawful (hK n ρ k B) (txA n j) a (nI (befN s t t)) (nI (sN s 0)) = some (sayI s cl l t, hK n ρ k B) := by
  have hcell : (hT (txA n j) (tLet ρ j) (tFl j) (kTx k j) (hK n ρ k B)).1 a = some (.inr (kcN (tKind s t), tyF (n + 10) s t)) := by
    rw [← hK_tx0 n ρ k B hj, hK_out n ρ k B (Or.inr (by have := hA.1; omega)), hA.2.2]
  have e := X7_lawful (B := hK n ρ k B) hs ht hcell hx l
  rw [← hK_tx0 n ρ k B hj] at e
  exact e
theorem X11_countedBits (hs : sOk s) (hk : KR n s k B) {p : Nat} (hpp : p < 5) {l : List Cl} (hx : TxC false (kTx k (2 * p)) l) : f_X11_countedBits (hK n ρ k B) n (txA n (2 * p)) = some (bits (cntB s l p) (sN s 1), hK n ρ k B) := by
  have hn : sN s 1 ≤ 30 := hs.2.2.1
  have hp := hs.2.1
  have e1 : k.1 2 = nI (sN s 1) := hk.2.1.trans (hs.1 1 (by omega))
  have e0 : k.1 0 = nI (sN s 0) := hk.1.trans (hs.1 0 (by omega))
  unfold f_X11_countedBits
  have L : ∀ (d i f : Nat), i + d = sN s 1 → d < f → f_X11_countedBits_L4 n (txA n (2 * p)) f_X11_countedBits_K45 f (bits (cntB s l p) i) (nI i) (hK n ρ k B) = some (bits (cntB s l p) (sN s 1), hK n ρ k B) := by
    intro d
    induction d with
    | zero =>
      intro i f hi hf
      obtain ⟨f, rfl⟩ : ∃ g, f = g + 1 := ⟨f - 1, by omega⟩
      rw [f_X11_countedBits_L4]
      unfold f_X11_countedBits_B4
      rw [KI_2, ob, e1, if_pos (nI_le (by omega) (by omega)), show i = sN s 1 by omega]
      rfl
    | succ d ih =>
      intro i f hi hf
      obtain ⟨f, rfl⟩ : ∃ g, f = g + 1 := ⟨f - 1, by omega⟩
      obtain ⟨a, ha, hT⟩ := hk.2.2.2.2 i (by omega)
      obtain ⟨-, -, -, -, -, -, g1, g2, g3, g4, g5, g6⟩ := hs.2.2.2.2.2.2 i (by omega)
      rw [f_X11_countedBits_L4]
      unfold f_X11_countedBits_B4
      rw [KI_2, ob, e1, if_neg (nI_ge (by omega) (by omega)), hK_C, if_pos rfl, X11_tryN hs hk (show i < sN s 1 by omega) ha, bd2_some, oC_some, nI_1]
      have ih1 := ih (i + 1) f (by omega) (by omega)
      rw [gC_tx (by omega), if_pos rfl, X11_counts hs (show i < sN s 1 by omega) hT (by omega) hx hpp, bd2_some, bI_if, ← ih1]
      cases h : cntB s l p i <;> simp [bits, h]
  exact L (sN s 1) 0 FU (by omega) (by show sN s 1 < 100000; omega)

theorem X11_countS (hs : sOk s) (hk : KR n s k B) (hx : KX s tx k) {p : Nat} (hp : p < sN s 2) : f_X11_countedBits (hK n ρ k B) n (txA n (2 * p)) = some (cntS s (tx p) p, hK n ρ k B) := X11_countedBits hs hk (by have := hs.2.2.2.1; omega) (hx.1 p hp).1
theorem X11_hitBits (hs : sOk s) (hk : KR n s k B) (ho : txOk s tx) (hx : KX s tx k) {p : Nat} (hp : p < sN s 2) : f_X11_hitBits (hK n ρ k B) n (txA n (2 * p)) = some (hitS s (cntS s (tx p) p) (hitN s p), hK n ρ k B) := by
  have hn := hs.2.2.2.1
  obtain ⟨-, q1, q2, -⟩ := ho.1 p hp
  unfold f_X11_hitBits
  rw [hK_C, if_pos rfl, X11_countS hs hk hx hp, bd2_some, gI_tx (by omega) (Or.inl rfl), ob, (hx.1 p hp).2.1, q1, hK_C, if_pos rfl, X11_bitsNoFartherThan hs hk (by omega), bd2_some, and_hit s hs]
theorem X11_passingMen (hs : sOk s) (hk : KR n s k B) (set : Int32) {need : Nat} (hneed : need < 100) : f_X11_passingMen (hK n ρ k B) n set (nI need) = some (bits (fun man => decide (need ≤ numS (manS s set man))) 6, hK n ρ k B) := by
  unfold f_X11_passingMen
  have L : ∀ (d i f : Nat), i + d = 6 → d < f → f_X11_passingMen_L5 n set (nI need) f_X11_passingMen_K40 f (bits (fun man => decide (need ≤ numS (manS s set man))) i) (nI i) (hK n ρ k B) = some (bits (fun man => decide (need ≤ numS (manS s set man))) 6, hK n ρ k B) := by
    intro d
    induction d with
    | zero =>
      intro i f hi hf
      obtain ⟨f, rfl⟩ : ∃ g, f = g + 1 := ⟨f - 1, by omega⟩
      rw [f_X11_passingMen_L5]
      unfold f_X11_passingMen_B5
      rw [if_pos (show (6 : Int32) ≤ nI i from nI_le (a := 6) (by omega) (by omega)), show i = 6 by omega]
      rfl
    | succ d ih =>
      intro i f hi hf
      obtain ⟨f, rfl⟩ : ∃ g, f = g + 1 := ⟨f - 1, by omega⟩
      have hc := numS_le (manS s set i)
      rw [f_X11_passingMen_L5]
      unfold f_X11_passingMen_B5
      rw [if_neg (show ¬ (6 : Int32) ≤ nI i from nI_ge (b := 6) (by omega) (by omega)), hK_C, if_pos rfl, X11_bitsOfMan hs hk (show i < 6 by omega), bd2_some, and_man s hs, X_manC hs, bd2_some, nI_1, ← ih (i + 1) f (by omega) (by omega)]
      by_cases h : need ≤ numS (manS s set i)
      · rw [if_neg (nI_nlt h (by omega))]; simp [bits, h]
      · rw [if_pos (nI_lt (by omega) (by omega))]; simp [bits, h]
  exact L 6 0 FU (by omega) (by show 6 < 100000; omega)
theorem X11_passing (hs : sOk s) (hk : KR n s k B) (ho : txOk s tx) {p : Nat} (hp : p < sN s 2) : f_X11_passingMen (hK n ρ k B) n (hitS s (cntS s (tx p) p) (hitN s p)) (nI (needN s p)) = some (pasS s (tx p) p, hK n ρ k B) := by
  obtain ⟨-, -, -, -, q1⟩ := ho.1 p hp
  exact X11_passingMen hs hk _ q1
theorem X11_bitsThatLawHas (hs : sOk s) (hk : KR n s k B) {l : Nat} (hl : l < 5) {cl : List Cl} (hx : TxC true (kTx k (2 * l + 1)) cl) (hnr : (kTx k (2 * l + 1)).1 10 = nI (nearN s l) ∧ nearN s l < 100) : f_X11_bitsThatLawHas (hK n ρ k B) n (txA n (2 * l + 1)) = some (bits (hasB s cl l) (sN s 1), hK n ρ k B) := by
  have hn : sN s 1 ≤ 30 := hs.2.2.1
  have hp := hs.2.1
  have e1 : k.1 2 = nI (sN s 1) := hk.2.1.trans (hs.1 1 (by omega))
  have e0 : k.1 0 = nI (sN s 0) := hk.1.trans (hs.1 0 (by omega))
  unfold f_X11_bitsThatLawHas
  have L : ∀ (d i f : Nat), i + d = sN s 1 → d < f → f_X11_bitsThatLawHas_L4 n (txA n (2 * l + 1)) f_X11_bitsThatLawHas_K82 f (bits (hasB s cl l) i) (nI i) (hK n ρ k B) = some (bits (hasB s cl l) (sN s 1), hK n ρ k B) := by
    intro d
    induction d with
    | zero =>
      intro i f hi hf
      obtain ⟨f, rfl⟩ : ∃ g, f = g + 1 := ⟨f - 1, by omega⟩
      rw [f_X11_bitsThatLawHas_L4]
      unfold f_X11_bitsThatLawHas_B4
      rw [KI_2, ob, e1, if_pos (nI_le (by omega) (by omega)), show i = sN s 1 by omega]
      rfl
    | succ d ih =>
      intro i f hi hf
      obtain ⟨f, rfl⟩ : ∃ g, f = g + 1 := ⟨f - 1, by omega⟩
      obtain ⟨a, ha, hT⟩ := hk.2.2.2.2 i (by omega)
      obtain ⟨-, -, -, -, -, -, g1, g2, g3, g4, g5, g6⟩ := hs.2.2.2.2.2.2 i (by omega)
      rw [f_X11_bitsThatLawHas_L4]
      unfold f_X11_bitsThatLawHas_B4
      rw [KI_2, ob, e1, if_neg (nI_ge (by omega) (by omega)), hK_C, if_pos rfl, X11_tryN hs hk (show i < sN s 1 by omega) ha, bd2_some, oC_some, nI_1]
      have ih1 := ih (i + 1) f (by omega) (by omega)
      rw [hK_C, if_pos rfl, X11_saidBefore hs hk (show i < sN s 1 by omega) hT, bd2_some, KI_0, ob, e0, gC_tx (by omega), if_pos rfl, X11_lawful hs (show i < sN s 1 by omega) hT (by omega) hx l, bd2_some, tyI_6 hT, ob, gI_tx (by omega) (Or.inr (Or.inr rfl)), hnr.1, ← ih1]
      unfold sayI
      cases h : sayO s cl l i with
      | none =>
        simp only []
        rw [if_pos trivial]
        simp [bits, hasB, h]
      | some pl =>
        have hpl := sayO_lt hs cl l i h
        have hd : dist (tSaid s i) pl < 100 := dist_lt (by omega) (by omega)
        simp only []
        rw [if_neg (nI_m5 (by omega)), abs_nI (by omega) (by omega), hqn_eq, ob]
        by_cases hx : dist (tSaid s i) pl ≤ nearN s l
        · rw [if_neg (nI_nlt hx (by omega))]
          rw [dist_comm] at hx
          simp [bits, hasB, h, hx]
        · rw [if_pos (nI_lt (by omega) (by omega))]
          rw [dist_comm] at hx
          simp [bits, hasB, h, hx]
  exact L (sN s 1) 0 FU (by omega) (by show sN s 1 < 100000; omega)

theorem X11_hasS (hs : sOk s) (hk : KR n s k B) (ho : txOk s tx) (hx : KX s tx k) {l : Nat} (hl : l < sN s 3) : f_X11_bitsThatLawHas (hK n ρ k B) n (txA n (2 * l + 1)) = some (bits (hasB s (tx (5 + l)) l) (sN s 1), hK n ρ k B) := by
  obtain ⟨-, q1, q2⟩ := ho.2 l hl
  exact X11_bitsThatLawHas hs hk (by have := hs.2.2.2.2.1; omega) (hx.2 l hl).1 ⟨by rw [(hx.2 l hl).2, q1], q2⟩
end CLS2
